section T39
variable {G : zG} {n : Nat} {μ ν : zM}
/-- a row of numbers behind the first comparers -/
def srt (A B : Int → Int) : Nat → (Int → Int) → Int → Int
  | 0, f => f
  | c + 1, f => fun k => if k = A c then min (srt A B c f (A c)) (srt A B c f (B c)) else if k = B c then max (srt A B c f (A c)) (srt A B c f (B c)) else srt A B c f k
theorem srt_P {A B : Int → Int} {W : Int} {P : Int → Prop} {f : Int → Int} (hf : ∀ k, 0 ≤ k → k < W → P (f k)) : ∀ c : Nat, (∀ j : Int, 0 ≤ j → j < c → 0 ≤ A j ∧ A j < W ∧ 0 ≤ B j ∧ B j < W) → ∀ k, 0 ≤ k → k < W → P (srt A B c f k)
  | 0, _, k, k0, k1 => hf k k0 k1
  | c + 1, hA, k, k0, k1 => by
    have a := hA c (by omega) (by omega)
    have ih := srt_P hf c (fun j x y => hA j x (by omega))
    have p := ih (A c) a.1 a.2.1
    have q := ih (B c) a.2.2.1 a.2.2.2
    simp only [srt]
    split
    · by_cases d : srt A B c f (A c) ≤ srt A B c f (B c)
      · rw [Int.min_eq_left d]; exact p
      · rw [Int.min_eq_right (by omega)]; exact q
    · split
      · by_cases d : srt A B c f (A c) ≤ srt A B c f (B c)
        · rw [Int.max_eq_right d]; exact q
        · rw [Int.max_eq_left (by omega)]; exact p
      · exact ih k k0 k1
theorem c0_lead (hn : 154 ≤ n) {C : Nat} {W : Int} (hW : W ≤ 8) (hC : μ 30 1 = C) (h30 : C ≤ 30) (hA : ∀ j : Int, 0 ≤ j → j < C → 0 ≤ μ 31 j ∧ μ 31 j < W ∧ 0 ≤ μ 32 j ∧ μ 32 j < W ∧ μ 31 j ≠ μ 32 j) (hR : ∀ k, 0 ≤ k → k < W → R32 (μ 126 k)) {K : zM → Prop}
    (hK : ∀ ν : zM, (∀ k, 0 ≤ k → k < W → ν 126 k = srt (μ 31) (μ 32) C (μ 126) k) → (∀ a j, a ≠ 126 → ν a j = μ a j) → K ν) : mX0_lead G n 126 μ K := by
  have zz : zk 126 = 0 ∧ (zn 126 : Int) = 8 := by decide
  have key : ∀ (g c : Nat) (ν : zM), c + g = C → (∀ k, 0 ≤ k → k < W → ν 126 k = srt (μ 31) (μ 32) c (μ 126) k) → (∀ a j, a ≠ 126 → ν a j = μ a j) → pX0_lead G n K 2 [some (Rv G 30), some (Rv G 126), some (Iv c), none, none] [] ν := by
    intro g
    induction g with
    | zero =>
      intro c ν ec h1 hf
      have : c = C := by omega
      subst this
      refine bX0_lead_2 (by omega) ?_
      rw [hf _ _ (by decide), hC]
      simp (disch := omega) only [wr_of]
      exact ⟨fun _ => hK ν h1 hf, fun z => by omega⟩
    | succ g ih =>
      intro c ν ec h1 hf
      have a := hA c (by omega) (by omega)
      have ra := srt_P (A := μ 31) (B := μ 32) (P := R32) hR c (fun j x y => by have := hA j x (by omega); omega) (μ 31 c) a.1 a.2.1
      have rb := srt_P (A := μ 31) (B := μ 32) (P := R32) hR c (fun j x y => by have := hA j x (by omega); omega) (μ 32 c) a.2.2.1 a.2.2.2.1
      have fA : ν 31 c = μ 31 c := hf _ _ (by decide)
      have fB : ν 32 c = μ 32 c := hf _ _ (by decide)
      refine bX0_lead_2 (by omega) ?_
      unfold zin
      rw [hf 30 1 (by decide), hC, zz.2]
      simp (disch := omega) only [wr_of]
      rw [fA, fB]
      try simp (disch := omega) only [wr_of]
      rw [h1 _ a.1 a.2.1, h1 _ a.2.2.1 a.2.2.2.1]
      obtain ⟨ra1, ra2⟩ := ra
      obtain ⟨rb1, rb2⟩ := rb
      simp (disch := omega) only [wr_of]
      have ia : (0 ≤ (126 : Int) ∧ (126 : Int) < n ∧ zk 126 = 0) ∧ 0 ≤ μ 31 c ∧ μ 31 c < 8 := ⟨⟨by decide, by omega, zz.1⟩, by omega⟩
      have ib : (0 ≤ (126 : Int) ∧ (126 : Int) < n ∧ zk 126 = 0) ∧ 0 ≤ μ 32 c ∧ μ 32 c < 8 := ⟨⟨by decide, by omega, zz.1⟩, by omega⟩
      refine ⟨fun z => by omega, fun _ => ⟨by omega, ia, by omega, ib, fun v6 e6 => ⟨by omega, ia, by omega, ib, fun v11 e11 => ⟨by omega, ia, fun μ14 e14 => ⟨by omega, ?_⟩⟩⟩⟩⟩
      have f14 : μ14 32 c = μ 32 c := by rw [e14, zu_na (by decide), fB]
      rw [f14]
      simp (disch := omega) only [wr_of]
      refine ⟨ib, fun μ17 e17 => ih (c + 1) μ17 (by omega) (fun k k0 k1 => ?_) (fun x j w => by rw [e17, zu_na w, e14, zu_na w]; exact hf x j w)⟩
      show μ17 126 k = if k = μ 31 c then _ else if k = μ 32 c then _ else _
      rw [e17, e14]; unfold zu
      by_cases c1 : k = μ 31 c
      · rw [if_neg (by omega), if_pos ⟨rfl, c1⟩, if_pos c1, e6]
      · rw [if_neg c1]
        by_cases c2 : k = μ 32 c
        · rw [if_pos ⟨rfl, c2⟩, if_pos c2, e11]
        · rw [if_neg (fun w => c2 w.2), if_neg (fun w => c1 w.2), if_neg c2]; exact h1 k k0 k1
  exact eX0_lead (by omega) (key C 0 μ (by omega) (fun _ _ _ => rfl) (fun _ _ _ => rfl))
/-- how many of the first places are unlike -/
def cd (f g : Int → Int) : Nat → Int
  | 0 => 0
  | k + 1 => cd f g k + (if f k = g k then 0 else 1)
theorem cd_r (f g : Int → Int) : ∀ k : Nat, 0 ≤ cd f g k ∧ cd f g k ≤ k
  | 0 => ⟨Int.le_refl 0, Int.le_refl 0⟩
  | k + 1 => by have := cd_r f g k; simp only [cd]; split <;> omega
theorem c5_write (hn : 154 ≤ n) {s i L : Int} {W : Nat} (hW : W ≤ 8) (s0 : 0 ≤ s) (s1 : s < 4) (i0 : 0 ≤ i) (i1 : i + W ≤ 60) (hL : μ 119 s = L) (hLr : R32 L) {f g : Int → Int} (hf : ∀ k : Int, 0 ≤ k → k < W → μ (122 + s) (i + k) = f k ∧ R32 (f k)) (hg : ∀ k : Int, 0 ≤ k → k < W → μ 126 k = g k ∧ fitsL L (g k)) {K : Int → zM → Prop}
    (hK : ∀ ν : zM, (∀ a j, ν a j = if a = 122 + s ∧ i ≤ j ∧ j < i + W then g (j - i) else μ a j) → K (cd f g W) ν) : mX5_write G n s i 126 W μ K := by
  have zz : zk 126 = 0 ∧ (zn 126 : Int) = 8 := by decide
  have key : ∀ (m k : Nat) (ν : zM), k + m = W → (∀ a j, ν a j = if a = 122 + s ∧ i ≤ j ∧ j < i + k then g (j - i) else μ a j) → pX5_write G n K 6 [some (Rv G 118), some (Iv s), some (Iv i), some (Rv G 126), some (Iv W), some (Iv (cd f g k)), some (Iv k)] [] ν := by
    intro m
    induction m with
    | zero =>
      intro k ν ek hν
      have : k = W := by omega
      subst this
      refine bX5_write_6 (by omega) ?_
      simp (disch := omega) only [wr_of]
      exact ⟨fun _ => hK ν hν, fun z => by omega⟩
    | succ m ih =>
      intro k ν ek hν
      have hfk := hf k (by omega) (by omega)
      have hgk := hg k (by omega) (by omega)
      have e1 : ν (122 + s) (i + k) = f k := by rw [hν, if_neg (by omega)]; exact hfk.1
      have e2 : ν 126 k = g k := by rw [hν, if_neg (by omega)]; exact hgk.1
      have eL : ν 119 s = L := by rw [hν, if_neg (by omega)]; exact hL
      have rf := hfk.2
      have rg := hgk.2.2.2
      obtain ⟨rf1, rf2⟩ := rf
      obtain ⟨rg1, rg2⟩ := rg
      have nx := ih (k + 1) (zu ν (122 + s) (i + k) (g k)) (by omega) (fun a j => by
        unfold zu
        by_cases c : a = 122 + s ∧ j = i + k
        · rw [if_pos c, if_pos (by omega), show j - i = k by omega]
        · rw [if_neg c, hν]
          by_cases d : a = 122 + s ∧ i ≤ j ∧ j < i + k
          · rw [if_pos d, if_pos (by omega)]
          · rw [if_neg d, if_neg (by omega)])
      simp only [cd] at nx
      refine bX5_write_6 (by omega) ?_
      unfold zin
      rw [show (121 : Int) + 1 = 122 from rfl, zz.2]
      simp (disch := omega) only [wr_of]
      rw [e1, e2]
      try simp (disch := omega) only [wr_of]
      have ib : (0 ≤ (126 : Int) ∧ (126 : Int) < n ∧ zk 126 = 0) ∧ 0 ≤ (k : Int) ∧ (k : Int) < 8 := ⟨⟨by decide, by omega, zz.1⟩, by omega⟩
      refine ⟨fun z => by omega, fun _ => ⟨by omega, by omega, ib, fun z => ⟨ib, c5_change hn ⟨s0, s1⟩ ⟨by omega, by omega⟩ (by rw [eL]; exact hLr) ?_⟩, fun z => ⟨ib, c5_change hn ⟨s0, s1⟩ ⟨by omega, by omega⟩ (by rw [eL]; exact hLr) ?_⟩⟩⟩
      · rw [if_pos z, Int.add_zero] at nx
        rw [eL, zcut_id hgk.2]; exact nx
      · rw [if_neg z] at nx
        rw [eL, zcut_id hgk.2]; exact nx
  exact eX5_write (by omega) (key W 0 μ (by omega) (fun a j => by rw [if_neg (by omega)]))
theorem c8_sortL (hn : 154 ≤ n) {A B : Int → Int} {C W : Nat} (hW : W ≤ 8) (hWm : μ 127 24 = W) (hC : μ 127 25 = C) (h30 : C ≤ 30) (hA : ∀ j : Int, 0 ≤ j → j < C → μ 141 j = A j ∧ μ 142 j = B j ∧ 0 ≤ A j ∧ A j < W ∧ 0 ≤ B j ∧ B j < W ∧ A j ≠ B j) {b : Int} (b0 : 0 ≤ b) (b1 : b + W ≤ 240) {f : Int → Int} (hf : ∀ k : Int, 0 ≤ k → k < W → μ 139 (b + k) = f k ∧ R32 (f k)) {K : Int → zM → Prop}
    (hK : ∀ ν : zM, (∀ a j, a ≠ 144 → ν a j = if a = 139 ∧ b ≤ j ∧ j < b + W then srt A B C f (j - b) else μ a j) → K (cd f (srt A B C f) W) ν) : pX8_sort G n K 56 [some (Rv G 127), none, none, none, none, some (Iv b), some (Iv 0), none, none, none] [] μ := by
  have rs' : ∀ c : Nat, c ≤ C → ∀ k : Int, 0 ≤ k → k < W → R32 (srt A B c f k) := fun c hc k k0 k1 => srt_P (P := R32) (W := W) (fun k a b => (hf k a b).2) c (fun j x y => by have := hA j x (by omega); omega) k k0 k1
  have k3 : ∀ (m k : Nat) (ν : zM), k + m = W → (∀ a j, a ≠ 144 → ν a j = if a = 139 ∧ b ≤ j ∧ j < b + W then srt A B C f (j - b) else μ a j) → (∀ k : Int, 0 ≤ k → k < W → ν 144 k = f k) → pX8_sort G n K 185 [some (Rv G 127), none, none, none, none, some (Iv b), some (Iv (cd f (srt A B C f) k)), some (Iv k), none, none] [] ν := by
    intro m
    induction m with
    | zero =>
      intro k ν ek hν h4
      have : k = W := by omega
      subst this
      refine bX8_sort_185 hn ?_
      rw [hν 127 24 (by decide), if_neg (by omega), hWm]
      simp (disch := omega) only [wr_of]
      exact ⟨fun _ => hK ν hν, fun z => by omega⟩
    | succ m ih =>
      intro k ν ek hν h4
      have nx := ih (k + 1) ν (by omega) hν h4
      simp only [cd] at nx
      have r1 := (hf k (by omega) (by omega)).2
      have r2 := rs' C (Nat.le_refl C) k (by omega) (by omega)
      obtain ⟨r1a, r1b⟩ := r1
      obtain ⟨r2a, r2b⟩ := r2
      refine bX8_sort_185 hn ?_
      rw [hν 127 24 (by decide), if_neg (by omega), hWm]
      simp (disch := omega) only [wr_of]
      rw [h4 k (by omega) (by omega), hν 139 _ (by decide), if_pos ⟨rfl, by omega, by omega⟩, show b + (k : Int) - b = k by omega]
      simp (disch := omega) only [wr_of]
      refine ⟨fun z => by omega, fun _ => ⟨by omega, by omega, fun z => ?_, fun z => ?_⟩⟩
      · rw [if_pos z] at nx; exact nx
      · rw [if_neg z] at nx; exact nx
  have k2 : ∀ (m c : Nat) (ν : zM), c + m = C → (∀ a j, a ≠ 144 → ν a j = if a = 139 ∧ b ≤ j ∧ j < b + W then srt A B c f (j - b) else μ a j) → (∀ k : Int, 0 ≤ k → k < W → ν 144 k = f k) → pX8_sort G n K 91 [some (Rv G 127), none, none, none, none, some (Iv b), some (Iv c), none, none, none] [] ν := by
    intro m
    induction m with
    | zero =>
      intro c ν ec hν h4
      have : c = C := by omega
      subst this
      refine bX8_sort_91 hn ?_
      rw [hν 127 25 (by decide), if_neg (by omega), hC]
      simp (disch := omega) only [wr_of]
      exact ⟨fun _ => k3 W 0 ν (by omega) hν h4, fun z => by omega⟩
    | succ m ih =>
      intro c ν ec hν h4
      have a := hA c (by omega) (by omega)
      have r1 := rs' c (by omega) (A c) a.2.2.1 a.2.2.2.1
      have r2 := rs' c (by omega) (B c) a.2.2.2.2.1 a.2.2.2.2.2.1
      obtain ⟨r1a, r1b⟩ := r1
      obtain ⟨r2a, r2b⟩ := r2
      have fA : ν 141 c = A c := by rw [hν _ _ (by decide), if_neg (by omega)]; exact a.1
      have fB : ν 142 c = B c := by rw [hν _ _ (by decide), if_neg (by omega)]; exact a.2.1
      have cA : ν 139 (b + A c) = srt A B c f (A c) := by rw [hν _ _ (by decide), if_pos ⟨rfl, by omega, by omega⟩]; congr 1; omega
      have cB : ν 139 (b + B c) = srt A B c f (B c) := by rw [hν _ _ (by decide), if_pos ⟨rfl, by omega, by omega⟩]; congr 1; omega
      refine bX8_sort_91 hn ?_
      rw [hν 127 25 (by decide), if_neg (by omega), hC]
      simp (disch := omega) only [wr_of]
      refine ⟨fun z => by omega, fun _ => ⟨by omega, fun v3 e3 => ⟨by omega, fun v5 e5 => ?_⟩⟩⟩
      rw [fA] at e3
      rw [fB] at e5
      subst e3 e5
      simp (disch := omega) only [wr_of]
      rw [cA, cB]
      try simp (disch := omega) only [wr_of]
      refine ⟨by omega, by omega, fun z => ih (c + 1) ν (by omega) (fun x j w => ?_) h4, fun z => ⟨by omega, fun v10 e10 => ⟨by omega, by omega, fun μ13 e13 => ⟨by omega, fun μ15 e15 => ih (c + 1) μ15 (by omega) (fun x j w => ?_) (fun k k0 k1 => ?_)⟩⟩⟩⟩
      · rw [hν x j w]
        by_cases d : x = 139 ∧ b ≤ j ∧ j < b + W
        · rw [if_pos d, if_pos d]
          show _ = if j - b = A c then _ else if j - b = B c then _ else _
          by_cases d1 : j - b = A c
          · rw [if_pos d1, Int.min_eq_left z, d1]
          · rw [if_neg d1]
            by_cases d2 : j - b = B c
            · rw [if_pos d2, Int.max_eq_right z, d2]
            · rw [if_neg d2]
        · rw [if_neg d, if_neg d]
      · rw [e15, e13]; unfold zu
        by_cases d : x = 139 ∧ b ≤ j ∧ j < b + W
        · rw [if_pos d]
          show _ = if j - b = A c then _ else if j - b = B c then _ else _
          by_cases d1 : j - b = A c
          · rw [if_pos d1, if_neg (by omega), if_pos (by omega), Int.min_eq_right (by omega)]
          · rw [if_neg d1]
            by_cases d2 : j - b = B c
            · rw [if_pos d2, if_pos (by omega), e10, Int.max_eq_left (by omega)]
            · rw [if_neg d2, if_neg (by omega), if_neg (by omega), hν x j w, if_pos d]
        · rw [if_neg d, if_neg (by omega), if_neg (by omega), hν x j w, if_neg d]
      · rw [e15, zu_na (by decide), e13, zu_na (by decide)]; exact h4 k k0 k1
  have k1 : ∀ (m k : Nat) (ν : zM), k + m = W → (∀ a j, a ≠ 144 → ν a j = μ a j) → (∀ q : Int, 0 ≤ q → q < k → ν 144 q = f q) → pX8_sort G n K 56 [some (Rv G 127), none, none, none, none, some (Iv b), some (Iv k), none, none, none] [] ν := by
    intro m
    induction m with
    | zero =>
      intro k ν ek hν h4
      have : k = W := by omega
      subst this
      refine bX8_sort_56 hn ?_
      rw [hν 127 24 (by decide), hWm]
      simp (disch := omega) only [wr_of]
      refine ⟨fun _ => k2 C 0 ν (by omega) (fun x j w => ?_) h4, fun z => by omega⟩
      rw [hν x j w]
      by_cases d : x = 139 ∧ b ≤ j ∧ j < b + k
      · rw [if_pos d, d.1, show j = b + (j - b) by omega, (hf (j - b) (by omega) (by omega)).1]
        show f (j - b) = f (b + (j - b) - b)
        congr 1; omega
      · rw [if_neg d]
    | succ m ih =>
      intro k ν ek hν h4
      refine bX8_sort_56 hn ?_
      rw [hν 127 24 (by decide), hWm]
      simp (disch := omega) only [wr_of]
      refine ⟨fun z => by omega, fun _ => ⟨by omega, by omega, fun μ4 e4 => ih (k + 1) μ4 (by omega) (fun x j w => by rw [e4, zu_na w]; exact hν x j w) (fun q q0 q1 => ?_)⟩⟩
      rw [e4]; unfold zu
      by_cases d : q = k
      · rw [if_pos ⟨rfl, d⟩, hν _ _ (by decide), d]; exact (hf k (by omega) (by omega)).1
      · rw [if_neg (fun w => d w.2)]; exact h4 q q0 (by omega)
  exact k1 W 0 μ (by omega) (fun _ _ _ => rfl) (fun q q0 q1 => by omega)
end T39
