section T27
variable {G : zG} {n : Nat} {μ ν : zM}
/-- the crossbar's tables, queues, matching and pointers, class and model alike -/
def B4 (μ : zM) : Prop :=
  (1 ≤ μ 99 0 ∧ μ 99 0 ≤ 5 ∧ μ 45 0 = μ 99 0 ∧ μ 127 30 = μ 99 0) ∧
  (∀ i o, 0 ≤ i → i < 5 → 0 ≤ o → o < 5 → (μ (47 + i) o = μ 145 (5 * i + o) ∧ 0 ≤ μ (47 + i) o ∧ μ (47 + i) o ≤ 50) ∧ (μ (101 + i) o = μ 147 (5 * i + o) ∧ 0 ≤ μ (101 + i) o ∧ μ (101 + i) o ≤ 1000 ∧ (¬ (i < μ 99 0 ∧ o < μ 99 0) → μ (101 + i) o = 0))) ∧
  (∀ i, 0 ≤ i → i < 5 → (μ 106 i = μ 151 i ∧ (μ 106 i = -9 ∨ (0 ≤ μ 106 i ∧ μ 106 i < μ 99 0 ∧ i < μ 99 0))) ∧ (μ 108 i = μ 148 i ∧ 0 ≤ μ 108 i ∧ μ 108 i < μ 99 0) ∧ (μ 109 i = μ 149 i ∧ 0 ≤ μ 109 i ∧ μ 109 i < μ 99 0))
theorem c7_isPort (hn : 154 ≤ n) (h : B4 μ) {x : Int} (hx : R32 x) {K : Int → zM → Prop} (hK : K (if 0 ≤ x ∧ x < μ 99 0 then 1 else 0) μ) : mX7_isPort G n x μ K := by
  obtain ⟨x1, x2⟩ := hx
  have p := h.1
  refine eX7_isPort hn (c_within hn ?_)
  simp (disch := omega) only [wr_of]
  refine ⟨?_, ?_⟩
  · split <;> simp
  · by_cases c : 0 ≤ x ∧ x < μ 99 0
    · rw [if_pos c] at hK; rw [if_pos (by omega)]; exact hK
    · rw [if_neg c] at hK; rw [if_neg (by omega)]; exact hK
theorem c8_isPort (hn : 154 ≤ n) {P : Int} (hp : ν 127 30 = P) (hP : 1 ≤ P ∧ P ≤ 5) {x : Int} (hx : R32 x) {K : Int → zM → Prop} (hK : K (if 0 ≤ x ∧ x < P then 1 else 0) ν) : mX8_isPort G n x ν K := by
  obtain ⟨x1, x2⟩ := hx
  refine eX8_isPort hn ?_
  rw [hp]
  simp (disch := omega) only [wr_of]
  exact ⟨fun z => by rwa [if_neg (by omega)] at hK, fun z => ⟨fun z2 => by rwa [if_neg (by omega)] at hK, fun z2 => by rwa [if_pos (by omega)] at hK⟩⟩
theorem t_queue (hn : 154 ≤ n) (h : B4 μ) {i o w : Int} (hi : R32 i) (ho : R32 o) (hw : R32 w) : mX7_queue G n i o w μ (fun a μ1 => mX8_queue G n i o w μ1 (fun b μ2 => a = b ∧ μ2 = μ)) := by
  obtain ⟨i1, i2⟩ := id hi
  obtain ⟨o1, o2⟩ := id ho
  obtain ⟨w1, w2⟩ := id hw
  have p := h.1
  have m8 : ∀ a : Int, (¬ (0 ≤ w ∧ w ≤ 3) → a = -2) → ((0 ≤ w ∧ w ≤ 3) → ¬ (0 ≤ i ∧ i < μ 99 0) → a = -1) → ((0 ≤ i ∧ i < μ 99 0) → w = 0 → ¬ (0 ≤ o ∧ o < μ 99 0) → a = -1) → ((0 ≤ i ∧ i < μ 99 0) → w = 0 → (0 ≤ o ∧ o < μ 99 0) → a = μ (101 + i) o) → ((0 ≤ i ∧ i < μ 99 0) → w = 1 → a = μ 106 i) → ((0 ≤ i ∧ i < μ 99 0) → w = 2 → a = μ 108 i) → ((0 ≤ i ∧ i < μ 99 0) → w = 3 → a = μ 109 i) → mX8_queue G n i o w μ (fun b μ2 => a = b ∧ μ2 = μ) := by
    intro a k1 k2 k3 k4 k5 k6 k7
    refine eX8_queue hn (c8_within hn ?_)
    simp (disch := omega) only [wr_of, ite_b0, Classical.not_not]
    refine ⟨fun z => c8_isPort hn p.2.2.2 ⟨p.1, p.2.1⟩ hi ?_, fun z => ⟨k1 z, trivial⟩⟩
    simp (disch := omega) only [wr_of, ite_b0, Classical.not_not]
    refine ⟨fun z2 => ⟨k2 z z2, trivial⟩, fun z2 => ⟨fun z3 => ⟨fun z4 => ⟨by omega, ?_, trivial⟩, fun z4 => absurd z4 z3, fun z4 => ⟨by omega, ?_, trivial⟩, fun z4 => ⟨by omega, ?_, trivial⟩⟩, fun z3 => c8_isPort hn p.2.2.2 ⟨p.1, p.2.1⟩ ho ?_⟩⟩
    · rw [k7 z2 (by omega), (h.2.2 i z2.1 (by omega)).2.2.1]
    · rw [k5 z2 z4, (h.2.2 i z2.1 (by omega)).1.1]
    · rw [k6 z2 z4, (h.2.2 i z2.1 (by omega)).2.1.1]
    · simp (disch := omega) only [wr_of, ite_b0, Classical.not_not]
      refine ⟨fun z4 => ?_, fun z4 => ⟨k3 z2 z3 z4, trivial⟩⟩
      simp (disch := omega) only [wr_of]
      exact ⟨fun z5 => by omega, fun z5 => ⟨by omega, by rw [k4 z2 z3 z4, (h.2.1 i o z2.1 (by omega) z4.1 (by omega)).2.1], trivial⟩, fun z5 => by omega, fun z5 => by omega⟩
  refine eX7_queue hn (c_within hn ?_)
  simp (disch := omega) only [wr_of, ite_b0, Classical.not_not]
  refine ⟨fun z => c7_isPort hn h hi ?_, fun z => m8 _ (fun _ => rfl) (fun q => absurd q z) (fun _ q => by omega) (fun _ q => by omega) (fun _ q => by omega) (fun _ q => by omega) (fun _ q => by omega)⟩
  simp (disch := omega) only [wr_of, ite_b0, Classical.not_not]
  refine ⟨fun z2 => m8 _ (fun q => absurd z q) (fun _ _ => rfl) (fun q => absurd q z2) (fun q => absurd q z2) (fun q => absurd q z2) (fun q => absurd q z2) (fun q => absurd q z2), fun z2 => ⟨fun z3 => ⟨fun z4 => ⟨by omega, m8 _ (fun q => absurd z q) (fun _ q => absurd z2 q) (fun _ q => by omega) (fun _ q => by omega) (fun _ q => by omega) (fun _ q => by omega) (fun _ _ => rfl)⟩, fun z4 => absurd z4 z3, fun z4 => ⟨by omega, m8 _ (fun q => absurd z q) (fun _ q => absurd z2 q) (fun _ q => by omega) (fun _ q => by omega) (fun _ _ => rfl) (fun _ q => by omega) (fun _ q => by omega)⟩, fun z4 => ⟨by omega, m8 _ (fun q => absurd z q) (fun _ q => absurd z2 q) (fun _ q => by omega) (fun _ q => by omega) (fun _ q => by omega) (fun _ _ => rfl) (fun _ q => by omega)⟩⟩, fun z3 => c7_isPort hn h ho ?_⟩⟩
  simp (disch := omega) only [wr_of, ite_b0, Classical.not_not]
  refine ⟨fun z4 => ?_, fun z4 => m8 _ (fun q => absurd z q) (fun _ q => absurd z2 q) (fun _ _ _ => rfl) (fun _ _ q => absurd q z4) (fun _ q => by omega) (fun _ q => by omega) (fun _ q => by omega)⟩
  exact ⟨fun z5 => by omega, fun z5 => ⟨by omega, by omega, m8 _ (fun q => absurd z q) (fun _ q => absurd z2 q) (fun _ _ q => absurd z4 q) (fun _ _ _ => rfl) (fun _ q => by omega) (fun _ q => by omega) (fun _ q => by omega)⟩, fun z5 => by omega, fun z5 => by omega⟩
/-- the sum of the first numbers of a row -/
def sm (f : Int → Int) : Nat → Int
  | 0 => 0
  | k + 1 => sm f k + f k
theorem sm_ext {f g : Int → Int} : ∀ k : Nat, (∀ j : Int, 0 ≤ j → j < k → f j = g j) → sm f k = sm g k
  | 0, _ => rfl
  | k + 1, h => by simp only [sm]; rw [sm_ext k (fun j a b => h j a (by omega)), h k (by omega) (by omega)]
theorem sm_b {f : Int → Int} {c : Int} : ∀ k : Nat, (∀ j : Int, 0 ≤ j → j < k → 0 ≤ f j ∧ f j ≤ c) → 0 ≤ sm f k ∧ sm f k ≤ c * k
  | 0, _ => by simp [sm]
  | k + 1, h => by
    have ih := sm_b k (fun j a b => h j a (by omega))
    have := h k (by omega) (by omega)
    simp only [sm]
    rw [show c * ((k + 1 : Nat) : Int) = c * k + c by rw [Int.natCast_add, Int.mul_add]; simp]
    omega
theorem sm_z {f : Int → Int} {m : Nat} : ∀ k : Nat, (∀ j : Int, m ≤ j → j < m + k → f j = 0) → sm f (m + k) = sm f m
  | 0, _ => rfl
  | k + 1, h => by
    show sm f (m + k) + f ((m + k : Nat) : Int) = _
    rw [sm_z k (fun j a b => h j a (by omega)), h _ (by omega) (by omega)]; omega
theorem c4_inAll (hn : 154 ≤ n) (h : B4 μ) {P : Nat} (hP : μ 99 0 = P) {K : Int → zM → Prop} (hK : K (sm (fun i => sm (μ (101 + i)) P) P) μ) : mX4_inAll G n μ K := by
  have p := h.1
  have rb : ∀ (i : Int) (m : Nat), 0 ≤ i → i < 5 → m ≤ 5 → 0 ≤ sm (μ (101 + i)) m ∧ sm (μ (101 + i)) m ≤ 1000 * m := fun i m i0 i1 m1 => sm_b m (fun j a b => by have := (h.2.1 i j i0 i1 a (by omega)).2; omega)
  have tb : ∀ m : Nat, m ≤ P → 0 ≤ sm (fun i => sm (μ (101 + i)) P) m ∧ sm (fun i => sm (μ (101 + i)) P) m ≤ 5000 * m := fun m m1 => sm_b m (fun j a b => by have := rb j P a (by omega) (by omega); omega)
  have inner : ∀ (i : Nat) (g o : Nat), i < P → o + g = P → pX4_inAll G n K 4 [some (Rv G 99), some (Iv (sm (fun i => sm (μ (101 + i)) P) (i + 1))), some (Iv ((i : Int) + 1)), none] [] μ → pX4_inAll G n K 14 [some (Rv G 99), some (Iv (sm (fun i => sm (μ (101 + i)) P) i + sm (μ (101 + (i : Int))) o)), some (Iv i), some (Iv o)] [] μ := by
    intro i g
    induction g with
    | zero =>
      intro o hi ho nx
      have : o = P := by omega
      subst this
      refine bX4_inAll_14 (by omega) ?_
      rw [hP]
      simp (disch := omega) only [wr_of]
      exact ⟨fun _ => nx, fun z => by omega⟩
    | succ g ih =>
      intro o hi ho nx
      refine bX4_inAll_14 (by omega) ?_
      rw [hP]
      simp (disch := omega) only [wr_of]
      refine ⟨fun z => by omega, fun _ => ⟨by omega, by omega, fun v4 e4 => ?_⟩⟩
      have := ih (o + 1) hi (by omega) nx
      rw [e4, show (100 : Int) + 1 + i = 101 + i by omega, Int.add_assoc]
      exact this
  have outer : ∀ (g i : Nat), i + g = P → pX4_inAll G n K 4 [some (Rv G 99), some (Iv (sm (fun i => sm (μ (101 + i)) P) i)), some (Iv i), none] [] μ := by
    intro g
    induction g with
    | zero =>
      intro i hi
      have : i = P := by omega
      subst this
      refine bX4_inAll_4 (by omega) ?_
      rw [hP]
      simp (disch := omega) only [wr_of]
      exact ⟨fun _ => hK, fun z => by omega⟩
    | succ g ih =>
      intro i hi
      refine bX4_inAll_4 (by omega) ?_
      rw [hP]
      simp (disch := omega) only [wr_of]
      refine ⟨fun z => by omega, fun _ => ?_⟩
      have := inner i P 0 (by omega) (by omega) (ih (i + 1) (by omega))
      simp only [sm, Int.add_zero] at this
      exact this
  exact eX4_inAll (by omega) (outer P 0 (by omega))
theorem t_waiting (hn : 154 ≤ n) (h : B4 μ) : mX7_waiting G n μ (fun a μ1 => mX8_waiting G n μ1 (fun b μ2 => a = b ∧ μ2 = μ)) := by
  have p := h.1
  obtain ⟨P, hP⟩ := Int.eq_ofNat_of_zero_le (show 0 ≤ μ 99 0 by omega)
  refine eX7_waiting hn (c4_inAll hn h hP ?_)
  have key : ∀ (g k : Nat), k + g = 25 → pX8_waiting G n (fun b μ2 => sm (fun i => sm (μ (101 + i)) P) P = b ∧ μ2 = μ) 4 [some (Rv G 127), some (Iv (sm (μ 147) k)), some (Iv k)] [] μ := by
    intro g
    induction g with
    | zero =>
      intro k hk
      have : k = 25 := by omega
      subst this
      refine bX8_waiting_4 hn ⟨fun _ => ⟨?_, rfl⟩, fun z => absurd (by decide) z⟩
      have z1 : ∀ i : Int, 0 ≤ i → i < 5 → sm (μ (101 + i)) 5 = sm (μ (101 + i)) P := fun i i0 i1 => by
        have := sm_z (f := μ (101 + i)) (m := P) (5 - P) (fun j a b => (h.2.1 i j i0 i1 (by omega) (by omega)).2.2.2.2 (by omega))
        rw [← this]; congr 1; omega
      have z2 : sm (fun i => sm (μ (101 + i)) P) 5 = sm (fun i => sm (μ (101 + i)) P) P := by
        have := sm_z (f := fun i => sm (μ (101 + i)) P) (m := P) (5 - P) (fun j a b => by
          have : sm (μ (101 + j)) P = sm (fun _ => 0) P := sm_ext P (fun o a' b' => (h.2.1 j o (by omega) (by omega) a' (by omega)).2.2.2.2 (by omega))
          rw [this]
          have := sm_z (f := fun _ => 0) (m := 0) P (fun _ _ _ => rfl)
          rw [Nat.zero_add] at this
          exact this)
        rw [← this]; congr 1; omega
      rw [← z2]
      have c0 : ((0 : Nat) : Int) = 0 := rfl
      have c1 : ((1 : Nat) : Int) = 1 := rfl
      simp only [sm, Int.zero_add, c0, c1, Int.cast_ofNat_Int]
      rw [← z1 0 (by decide) (by decide), ← z1 1 (by decide) (by decide), ← z1 2 (by decide) (by decide), ← z1 3 (by decide) (by decide), ← z1 4 (by decide) (by decide)]
      simp only [sm, Int.zero_add, c0, c1, Int.cast_ofNat_Int]
      have e := fun i o a b c d => (h.2.1 i o a b c d).2.1
      have e00 := e 0 0 (by decide) (by decide) (by decide) (by decide)
      have e01 := e 0 1 (by decide) (by decide) (by decide) (by decide)
      have e02 := e 0 2 (by decide) (by decide) (by decide) (by decide)
      have e03 := e 0 3 (by decide) (by decide) (by decide) (by decide)
      have e04 := e 0 4 (by decide) (by decide) (by decide) (by decide)
      have e10 := e 1 0 (by decide) (by decide) (by decide) (by decide)
      have e11 := e 1 1 (by decide) (by decide) (by decide) (by decide)
      have e12 := e 1 2 (by decide) (by decide) (by decide) (by decide)
      have e13 := e 1 3 (by decide) (by decide) (by decide) (by decide)
      have e14 := e 1 4 (by decide) (by decide) (by decide) (by decide)
      have e20 := e 2 0 (by decide) (by decide) (by decide) (by decide)
      have e21 := e 2 1 (by decide) (by decide) (by decide) (by decide)
      have e22 := e 2 2 (by decide) (by decide) (by decide) (by decide)
      have e23 := e 2 3 (by decide) (by decide) (by decide) (by decide)
      have e24 := e 2 4 (by decide) (by decide) (by decide) (by decide)
      have e30 := e 3 0 (by decide) (by decide) (by decide) (by decide)
      have e31 := e 3 1 (by decide) (by decide) (by decide) (by decide)
      have e32 := e 3 2 (by decide) (by decide) (by decide) (by decide)
      have e33 := e 3 3 (by decide) (by decide) (by decide) (by decide)
      have e34 := e 3 4 (by decide) (by decide) (by decide) (by decide)
      have e40 := e 4 0 (by decide) (by decide) (by decide) (by decide)
      have e41 := e 4 1 (by decide) (by decide) (by decide) (by decide)
      have e42 := e 4 2 (by decide) (by decide) (by decide) (by decide)
      have e43 := e 4 3 (by decide) (by decide) (by decide) (by decide)
      have e44 := e 4 4 (by decide) (by decide) (by decide) (by decide)
      simp only [Int.reduceAdd, Int.reduceMul] at e00 e01 e02 e03 e04 e10 e11 e12 e13 e14 e20 e21 e22 e23 e24 e30 e31 e32 e33 e34 e40 e41 e42 e43 e44
      simp only [Int.reduceAdd, Int.natCast_add, Int.cast_ofNat_Int, Int.zero_add, Int.add_zero]
      omega
    | succ g ih =>
      intro k hk
      refine bX8_waiting_4 hn ?_
      simp (disch := omega) only [wr_of]
      refine ⟨fun z => by omega, fun _ => ⟨by omega, fun v3 e3 => ?_⟩⟩
      rw [e3]
      exact ih (k + 1) (by omega)
  exact eX8_waiting hn (key 25 0 (by omega))
end T27
