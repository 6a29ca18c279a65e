section T11
variable {G : zG} {n : Nat} {μ : zM}
def tkl (μ : zM) (b a : Int) : Nat → Int
  | 0 => 0
  | k + 1 => if μ (b + k) a = -9 then tkl μ b a k else zor (tkl μ b a k) (zshl 1 k)
theorem tkl_R (b a : Int) (k : Nat) : R32 (tkl μ b a k) := by
  induction k with
  | zero => exact (⟨by decide, by decide⟩ : R32 0)
  | succ k ih => simp only [tkl]; split; exact ih; exact zor_R
theorem I1.lr (h : I1 μ) {b s a : Int} (hb : b = 7 ∨ b = 13) (h0 : 0 ≤ s) (h1 : s < 5) (h2 : 0 ≤ a) (h3 : a < 7) : -9 ≤ μ (b + s) a ∧ μ (b + s) a < 20 := by
  rcases hb with rfl | rfl
  · rcases h.left s a h0 h1 h2 h3 with q | q <;> omega
  · rcases h.right s a h0 h1 h2 h3 with q | q <;> omega
theorem c6_taken (hn : 154 ≤ n) (h : I1 μ) {a w : Int} (ha0 : 0 ≤ a) (ha : a < 7) (hw : w = 0 ∨ w = 1) {r : Nat} (hr : μ 1 0 = r) {K : Int → zM → Prop} (hK : K (tkl μ (if w = 0 then 7 else 13) a r) μ) : mX6_takenLinks G n a w μ K := by
  obtain ⟨⟨a1, a2, a3⟩, _⟩ := h.gd
  have key : ∀ (f k : Nat), k + f = r → pX6_takenLinks G n K 5 [some (Rv G 1), some (Iv a), some (Iv w), some (Iv (tkl μ (if w = 0 then 7 else 13) a k)), some (Iv k), none] [] μ := by
    intro f
    induction f with
    | zero =>
      intro k e
      have : k = r := by omega
      subst this
      refine bX6_takenLinks_5 (by omega) ?_
      simp (disch := omega) only [wr_of]
      exact ⟨fun _ => hK, fun z => by omega⟩
    | succ f ih =>
      intro k e
      have := ih (k + 1) (by omega)
      simp only [tkl] at this
      refine bX6_takenLinks_5 (by omega) ?_
      simp (disch := omega) only [wr_of]
      refine ⟨fun z => by omega, fun _ => ⟨fun z => ⟨by omega, by omega, fun v e => ?_⟩, fun z => ⟨by omega, by omega, fun v e => ?_⟩⟩⟩
      · have hv := h.lr (b := 13) (s := k) (a := a) (by omega) (by omega) (by omega) ha0 ha
        rw [show (12 : Int) + 1 = 13 from rfl] at e
        rw [if_neg z] at this ⊢
        rw [e]
        simp (disch := omega) only [wr_of]
        exact ⟨fun q => by rwa [if_pos q] at this, fun q v7 e7 => by rw [e7]; rwa [if_neg q] at this⟩
      · have hv := h.lr (b := 7) (s := k) (a := a) (by omega) (by omega) (by omega) ha0 ha
        rw [show (6 : Int) + 1 = 7 from rfl] at e
        rw [if_pos z] at this ⊢
        rw [e]
        simp (disch := omega) only [wr_of]
        exact ⟨fun q => by rwa [if_pos q] at this, fun q v7 e7 => by rw [e7]; rwa [if_neg q] at this⟩
  exact eX6_takenLinks (by omega) (key r 0 (by omega))
theorem c8_taken (hn : 154 ≤ n) (h : I1 μ) {a w : Int} (ha0 : 0 ≤ a) (ha : a < 7) (hw : w = 0 ∨ w = 1) {r : Nat} (hr : μ 1 0 = r) {K : Int → zM → Prop} (hK : K (tkl μ (if w = 0 then 7 else 13) a r) μ) : pX8_links G n K 33 [some (Rv G 127), some (Iv a), some (Iv w), some (Iv 0), some (Iv 0)] [] μ := by
  obtain ⟨⟨a1, a2, a3⟩, _⟩ := h.gd
  have key : ∀ (f k : Nat), k + f = r → pX8_links G n K 33 [some (Rv G 127), some (Iv a), some (Iv w), some (Iv (tkl μ (if w = 0 then 7 else 13) a k)), some (Iv k)] [] μ := by
    intro f
    induction f with
    | zero =>
      intro k e
      have : k = r := by omega
      subst this
      refine bX8_links_33 hn ?_
      rw [← a1]
      simp (disch := omega) only [wr_of]
      exact ⟨fun _ => hK, fun z => by omega⟩
    | succ f ih =>
      intro k e
      have := ih (k + 1) (by omega)
      simp only [tkl] at this
      refine bX8_links_33 hn ?_
      rw [← a1]
      simp (disch := omega) only [wr_of]
      refine ⟨fun z => by omega, fun _ => ⟨fun z => c8_atRight hn h (by omega) (by omega) ha0 ha ?_, fun z => c8_atLeft hn h (by omega) (by omega) ha0 ha ?_⟩⟩
      · have hv := h.lr (b := 13) (s := k) (a := a) (by omega) (by omega) (by omega) ha0 ha
        rw [if_neg z] at this ⊢
        simp (disch := omega) only [wr_of]
        exact ⟨fun q v7 e7 => by rw [e7]; rwa [if_neg q] at this, fun q v7 e7 => by rw [e7, zor_zero, wr_r (tkl_R _ _ _)]; rwa [if_pos q] at this⟩
      · have hv := h.lr (b := 7) (s := k) (a := a) (by omega) (by omega) (by omega) ha0 ha
        rw [if_pos z] at this ⊢
        simp (disch := omega) only [wr_of]
        exact ⟨fun q v7 e7 => by rw [e7]; rwa [if_neg q] at this, fun q v7 e7 => by rw [e7, zor_zero, wr_r (tkl_R _ _ _)]; rwa [if_pos q] at this⟩
  exact key r 0 (by omega)
theorem t_links (hn : 154 ≤ n) (h : I1 μ) {a w : Int} (ha : R32 a) (hw : R32 w) : mX7_links G n a w μ (fun x μ1 => mX8_links G n a w μ1 (fun y μ2 => x = y ∧ μ2 = μ)) := by
  obtain ⟨⟨a1, a2, a3⟩, _, c1, c2, c3⟩ := h.gd
  have p1 := ha.1
  have p2 := ha.2
  have w1 := hw.1
  have w2 := hw.2
  obtain ⟨r, hr⟩ := Int.eq_ofNat_of_zero_le (show 0 ≤ μ 1 0 by omega)
  have m8 : ∀ x : Int, (¬ (0 ≤ a ∧ a ≤ μ 1 2 - 1) → x = -1) → (0 ≤ a ∧ a ≤ μ 1 2 - 1 → ¬ (0 ≤ w ∧ w ≤ 1) → x = -2) → (0 ≤ a ∧ a ≤ μ 1 2 - 1 → 0 ≤ w ∧ w ≤ 1 → x = tkl μ (if w = 0 then 7 else 13) a r) → mX8_links G n a w μ (fun y μ2 => x = y ∧ μ2 = μ) := by
    intro x k1 k2 k3
    refine eX8_links hn ?_
    rw [← c1]
    refine c8_within hn ?_
    simp (disch := omega) only [wr_of, ite_b0, Classical.not_not]
    refine ⟨fun z => c8_within hn ?_, fun z => ⟨k1 z, trivial⟩⟩
    simp (disch := omega) only [wr_of, ite_b0, Classical.not_not]
    exact ⟨fun z2 => c8_taken hn h (by omega) (by omega) (by omega) hr ⟨k3 z z2, rfl⟩, fun z2 => ⟨k2 z z2, trivial⟩⟩
  refine eX7_links hn (c_within hn ?_)
  simp (disch := omega) only [wr_of, ite_b0, Classical.not_not]
  refine ⟨fun z => c_within hn ?_, fun z => m8 _ (fun _ => rfl) (fun q => absurd q z) (fun q => absurd q z)⟩
  simp (disch := omega) only [wr_of, ite_b0, Classical.not_not]
  exact ⟨fun z2 => c6_taken hn h (by omega) (by omega) (by omega) hr (m8 _ (fun q => absurd z q) (fun _ q => absurd z2 q) (fun _ _ => rfl)), fun z2 => m8 _ (fun q => absurd z q) (fun _ _ => rfl) (fun _ q => absurd q z2)⟩
end T11
