section T77
variable {G : zG} {n : Nat} {μ ν κ : zM}
theorem sm_Sg {f : Int → Int} : ∀ k : Nat, sm f k = Sg f k
  | 0 => rfl
  | k + 1 => by simp only [sm, Sg]; rw [sm_Sg k]
/-- a row meets every line of sum s -/
def Tg (P : Nat) (T : Int → Int → Int) (s : Int) (c : Int → Int) : Prop := (∀ x : Int, 0 ≤ x → x < P → ¬ c x < P → rs T P x ≠ s) ∧ (∀ o : Int, 0 ≤ o → o < P → us c o P = false → cs T P o ≠ s)
theorem c8_isTight (hn : 154 ≤ n) {P : Nat} (hP : κ 127 30 = P) (hP1 : 1 ≤ P) (hP5 : P ≤ 5) {T : Int → Int → Int} (hT : Tb T) (hm : ∀ i o : Int, 0 ≤ i → i < P → 0 ≤ o → o < P → κ 146 (5 * i + o) = T i o) {c : Int → Int} (hc : ∀ x : Int, 0 ≤ x → x < P → κ 150 x = c x ∧ 0 ≤ c x ∧ c x ≤ P) {s : Int} (s0 : 0 ≤ s) (s1 : s ≤ 250) {K : Int → zM → Prop} (k1 : Tg P T s c → K 1 κ) (k0 : ¬ Tg P T s c → K 0 κ) : mX8_isTight G n s κ K := by
  have z5 := zs_r (P := 5) (by decide) (by decide)
  have e5 : zshl 1 5 = 32 := by decide +kernel
  have second : (∀ x : Int, 0 ≤ x → x < P → ¬ c x < P → rs T P x ≠ s) → ∀ m : Int, 0 ≤ m → m < 32 → (∀ o : Int, 0 ≤ o → o < P → Um m o = us c o P) → ∀ (g : Nat) (o : Int), 0 ≤ o → o + g = P → (∀ y : Int, 0 ≤ y → y < o → us c y P = false → cs T P y ≠ s) → pX8_isTight G n K 59 [some (Rv G 127), some (Iv s), some (Iv m), some (Iv o)] [] κ := by
    intro h1 m m0 m1 hu g
    induction g with
    | zero =>
      intro o o0 eo hy
      refine bX8_isTight_59 (by omega) ?_
      rw [hP]
      simp (disch := omega) only [wr_of]
      exact ⟨fun _ => k1 ⟨h1, fun y a b => hy y a (by omega)⟩, fun z => by omega⟩
    | succ g ih =>
      intro o o0 eo hy
      have r := (hT.r hP5 o0 (by omega)).2
      refine bX8_isTight_59 (by omega) ?_
      rw [hP]
      simp (disch := omega) only [wr_of]
      refine ⟨fun z => by omega, fun _ => c8_sumOf hn hP hP5 hT hm o0 (by omega) (Or.inl rfl) ?_⟩
      rw [if_neg (by decide)]
      simp (disch := omega) only [wr_of]
      refine ⟨fun z => ih (o + 1) (by omega) (by omega) (fun y a b w => ?_), fun z => ⟨fun z2 => ih (o + 1) (by omega) (by omega) (fun y a b w => ?_), fun z2 => k0 (fun tg => ?_)⟩⟩
      · by_cases e : y = o
        · rw [e]; exact z
        · exact hy y a (by omega) w
      · by_cases e : y = o
        · have : Um m o = true := decide_eq_true z2
          rw [hu o o0 (by omega), ← e, w] at this
          exact absurd this (by decide)
        · exact hy y a (by omega) w
      · have : Um m o = false := decide_eq_false (fun w => w z2)
        rw [hu o o0 (by omega)] at this
        exact tg.2 o o0 (by omega) this z
  have first : ∀ (g k : Nat) (m : Int), k + g = P → 0 ≤ m → m < 32 → (∀ o : Int, 0 ≤ o → o < P → Um m o = us c o k) → (∀ y : Int, 0 ≤ y → y < k → ¬ c y < P → rs T P y ≠ s) → pX8_isTight G n K 4 [some (Rv G 127), some (Iv s), some (Iv m), some (Iv k)] [] κ := by
    intro g
    induction g with
    | zero =>
      intro k m ek m0 m1 hu hy
      have : k = P := by omega
      subst this
      refine bX8_isTight_4 (by omega) ?_
      rw [hP]
      simp (disch := omega) only [wr_of]
      exact ⟨fun _ => second hy m m0 m1 hu k 0 (by decide) (by omega) (fun y a b => by omega), fun z => by omega⟩
    | succ g ih =>
      intro k m ek m0 m1 hu hy
      have ck := hc k (by omega) (by omega)
      have r := (hT.r hP5 (i := k) (by omega) (by omega)).1
      refine bX8_isTight_4 (by omega) ?_
      rw [hP]
      simp (disch := omega) only [wr_of]
      rw [ck.1]
      try simp (disch := omega) only [wr_of]
      refine ⟨fun z => by omega, fun _ => ⟨by omega, fun z => c8_sumOf hn hP hP5 hT hm (by omega) (by omega) (Or.inr rfl) ?_, fun z => ⟨by omega, fun v8 e8 => ?_⟩⟩⟩
      · rw [if_pos rfl]
        simp (disch := omega) only [wr_of]
        refine ⟨fun z2 => ih (k + 1) m (by omega) m0 m1 (fun o o0 o1 => ?_) (fun y a b w => ?_), fun z2 => k0 (fun tg => tg.1 k (by omega) (by omega) (by omega) z2)⟩
        · rw [hu o o0 o1]
          simp only [us]
          rw [decide_eq_false (by omega), Bool.or_false]
        · by_cases e : y = k
          · rw [e]; exact z2
          · exact hy y a (by omega) w
      · have orr := or_r (P := 5) (m := m) (o := c k) (by decide) (by decide) m0 (by omega) ck.2.1 (by omega)
        rw [← e8, e5] at orr
        refine ih (k + 1) v8 (by omega) orr.1 orr.2 (fun o o0 o1 => ?_) (fun y a b w => ?_)
        · rw [e8, um_or m0 m1 ck.2.1 (by omega) o0 (by omega)]
          unfold upU
          simp only [us]
          rw [hu o o0 o1]
          by_cases q : o = c k
          · rw [if_pos q, decide_eq_true q.symm, Bool.or_true]
          · rw [if_neg q, decide_eq_false (fun w => q w.symm), Bool.or_false]
        · by_cases e : y = k
          · rw [e] at w; omega
          · exact hy y a (by omega) w
  have um0 : ∀ o : Fin 5, Um 0 (o.1 : Int) = false := by decide +kernel
  refine eX8_isTight (by omega) (first P 0 0 (by omega) (by decide) (by decide) (fun o o0 o1 => ?_) (fun y a b => by omega))
  have := um0 ⟨o.toNat, by omega⟩
  simp only [Int.toNat_of_nonneg o0] at this
  rw [this]; rfl
end T77
