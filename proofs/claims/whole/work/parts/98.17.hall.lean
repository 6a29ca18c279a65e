section T74
def Sg (f : Int → Int) : Nat → Int
  | 0 => 0
  | k + 1 => Sg f k + f k
theorem Sg_add {f g : Int → Int} : ∀ k : Nat, Sg (fun x => f x + g x) k = Sg f k + Sg g k
  | 0 => rfl
  | k + 1 => by simp only [Sg]; rw [Sg_add k]; omega
theorem Sg_mul {f : Int → Int} {s : Int} : ∀ k : Nat, Sg (fun x => s * f x) k = s * Sg f k
  | 0 => by simp [Sg]
  | k + 1 => by simp only [Sg]; rw [Sg_mul k, Int.mul_add]
theorem Sg_c {f g : Int → Int} : ∀ k : Nat, (∀ x : Int, 0 ≤ x → x < k → f x = g x) → Sg f k = Sg g k
  | 0, _ => rfl
  | k + 1, h => by simp only [Sg]; rw [Sg_c k (fun x a b => h x a (by omega)), h k (by omega) (by omega)]
theorem Sg_le {f g : Int → Int} : ∀ k : Nat, (∀ x : Int, 0 ≤ x → x < k → f x ≤ g x) → Sg f k ≤ Sg g k
  | 0, _ => Int.le_refl 0
  | k + 1, h => by simp only [Sg]; have := Sg_le k (fun x a b => h x a (by omega)); have := h k (by omega) (by omega); omega
theorem Sg_0 : ∀ k : Nat, Sg (fun _ => 0) k = 0
  | 0 => rfl
  | k + 1 => by simp only [Sg]; rw [Sg_0 k]; rfl
theorem Sg_swap {f : Int → Int → Int} (b : Nat) : ∀ a : Nat, Sg (fun x => Sg (f x) b) a = Sg (fun y => Sg (fun x => f x y) a) b
  | 0 => by simp only [Sg]; exact (Sg_0 b).symm
  | a + 1 => by
    simp only [Sg]
    rw [Sg_swap b a, ← Sg_add]
theorem Sg_one {f : Int → Int} {k : Nat} (h0 : ∀ x : Int, 0 ≤ x → x < k → 0 ≤ f x) {y : Int} (y0 : 0 ≤ y) (y1 : y < k) : f y ≤ Sg f k := by
  induction k with
  | zero => omega
  | succ k ih =>
    simp only [Sg]
    have p : 0 ≤ Sg f k := by
      have := Sg_le (f := fun _ => 0) (g := f) k (fun x a b => h0 x a (by omega))
      rw [Sg_0] at this; exact this
    by_cases e : y = k
    · rw [e]; omega
    · have := ih (fun x a b => h0 x a (by omega)) (by omega)
      have := h0 k (by omega) (by omega)
      omega
/-- a partial matching in the support of A -/
def Mt (P : Int) (A : Int → Int → Int) (c : Int → Int) : Prop := ∀ x, 0 ≤ x → x < P → c x < 0 ∨ (c x < P ∧ 0 < A x (c x) ∧ ∀ y, 0 ≤ y → y < P → c y = c x → y = x)
/-- the rows that are reached from r0 in t steps -/
def Rt (P : Int) (A : Int → Int → Int) (c : Int → Int) (r0 : Int) : Nat → Int → Prop
  | 0, r => r = r0
  | t + 1, r => Rt P A c r0 t r ∨ ((0 ≤ r ∧ r < P ∧ 0 ≤ c r) ∧ ∃ r', Rt P A c r0 t r' ∧ 0 < A r' (c r))
theorem Rt_in {P : Int} {A : Int → Int → Int} {c : Int → Int} {r0 : Int} (h0 : 0 ≤ r0 ∧ r0 < P) : ∀ (t : Nat) (r : Int), Rt P A c r0 t r → 0 ≤ r ∧ r < P
  | 0, r, h => by have : r = r0 := h; rw [this]; exact h0
  | t + 1, r, h => by
    rcases h with h | h
    · exact Rt_in h0 t r h
    · exact ⟨h.1.1, h.1.2.1⟩
theorem Rt_m {P : Int} {A : Int → Int → Int} {c c1 : Int → Int} {r0 : Int} : ∀ (t : Nat), (∀ x, Rt P A c r0 t x → c1 x = c x) → ∀ r, Rt P A c r0 t r → Rt P A c1 r0 t r
  | 0, _, _, h => h
  | t + 1, e, r, h => by
    rcases h with h2 | ⟨⟨a1, a2, a3⟩, r', h2, h3⟩
    · exact Or.inl (Rt_m t (fun x hx => e x (Or.inl hx)) r h2)
    · have er := e r (Or.inr ⟨⟨a1, a2, a3⟩, r', h2, h3⟩)
      exact Or.inr ⟨⟨a1, a2, by rw [er]; exact a3⟩, r', Rt_m t (fun x hx => e x (Or.inl hx)) r' h2, by rw [er]; exact h3⟩
theorem Mt_up {P : Int} {A : Int → Int → Int} {c : Int → Int} (h : Mt P A c) {r o : Int} (o0 : 0 ≤ o) (o1 : o < P) (ha : 0 < A r o) (free : ∀ y, 0 ≤ y → y < P → c y ≠ o) : Mt P A (up c r o) := by
  intro x x0 x1
  unfold up
  by_cases e : x = r
  · rw [if_pos e, e]
    refine Or.inr ⟨o1, ha, fun y y0 y1 hy => ?_⟩
    by_cases e2 : y = r
    · exact e2
    · rw [if_neg e2] at hy; exact absurd hy (free y y0 y1)
  · rw [if_neg e]
    rcases h x x0 x1 with q | ⟨q1, q2, q3⟩
    · exact Or.inl q
    · refine Or.inr ⟨q1, q2, fun y y0 y1 hy => ?_⟩
      by_cases e2 : y = r
      · rw [if_pos e2] at hy; exact absurd hy.symm (free x x0 x1)
      · rw [if_neg e2] at hy; exact q3 y y0 y1 hy
theorem aug {P : Int} {A : Int → Int → Int} {r0 : Int} (h0 : 0 ≤ r0 ∧ r0 < P) : ∀ (t : Nat) (c : Int → Int) (r o : Int), Mt P A c → c r0 < 0 → Rt P A c r0 t r → 0 ≤ o → o < P → 0 < A r o → (∀ y, 0 ≤ y → y < P → c y ≠ o) → ∃ c', Mt P A c' ∧ (∀ x, 0 ≤ x → x < P → 0 ≤ c x → 0 ≤ c' x) ∧ 0 ≤ c' r0 := by
  intro t
  induction t with
  | zero =>
    intro c r o hm hr ht o0 o1 ha free
    have er : r = r0 := ht
    subst er
    refine ⟨up c r o, Mt_up hm o0 o1 ha free, fun x x0 x1 hx => ?_, ?_⟩
    · unfold up; split
      · exact o0
      · exact hx
    · unfold up; rw [if_pos rfl]; exact o0
  | succ t ih =>
    intro c r o hm hr ht o0 o1 ha free
    by_cases hin : Rt P A c r0 t r
    · exact ih c r o hm hr hin o0 o1 ha free
    · rcases ht with ht | ⟨⟨a1, a2, a3⟩, r', b1, b2⟩
      · exact absurd ht hin
      · have rn : r0 ≠ r := fun e => by rw [e] at hr; omega
        rcases hm r a1 a2 with w | ⟨q1, q2, q3⟩
        · omega
        · have mono := Rt_m (c1 := up c r o) t (fun x hx => by unfold up; rw [if_neg (fun e => hin (by rw [← e]; exact hx))]) r' b1
          obtain ⟨c', d1, d2, d3⟩ := ih (up c r o) r' (c r) (Mt_up hm o0 o1 ha free) (by unfold up; rw [if_neg rn]; exact hr) mono a3 q1 b2 (fun y y0 y1 hy => by
            unfold up at hy
            by_cases e : y = r
            · rw [if_pos e] at hy; exact free r a1 a2 hy.symm
            · rw [if_neg e] at hy; exact e (q3 y y0 y1 hy))
          refine ⟨c', d1, fun x x0 x1 hx => d2 x x0 x1 ?_, d3⟩
          unfold up; split
          · exact o0
          · exact hx
/-- where all lines have one sum above 0, all rows are matched -/
theorem hall {P s : Int} {A : Int → Int → Int} (hp : 1 ≤ P) (hA : ∀ i o, 0 ≤ i → i < P → 0 ≤ o → o < P → 0 ≤ A i o) (hs : 0 < s) (hr : ∀ i, 0 ≤ i → i < P → Sg (A i) P.toNat = s) (hc : ∀ o, 0 ≤ o → o < P → Sg (fun i => A i o) P.toNat = s) : ∀ k : Nat, (k : Int) ≤ P → ∃ c, Mt P A c ∧ ∀ x : Int, 0 ≤ x → x < k → 0 ≤ c x := by
  intro k
  induction k with
  | zero => exact fun _ => ⟨fun _ => -1, fun x _ _ => Or.inl (show (-1 : Int) < 0 by decide), fun x a b => by omega⟩
  | succ k ih =>
    intro kP
    obtain ⟨c, hm, hk⟩ := ih (by omega)
    by_cases ck : 0 ≤ c k
    · refine ⟨c, hm, fun x a b => ?_⟩
      by_cases e : x = k
      · rw [e]; exact ck
      · exact hk x a (by omega)
    have h0 : 0 ≤ (k : Int) ∧ (k : Int) < P := ⟨by omega, by omega⟩
    by_cases ex : ∃ (t : Nat) (r o : Int), Rt P A c k t r ∧ 0 ≤ o ∧ o < P ∧ 0 < A r o ∧ ∀ y, 0 ≤ y → y < P → c y ≠ o
    · obtain ⟨t, r, o, e1, e2, e3, e4, e5⟩ := ex
      obtain ⟨c', d1, d2, d3⟩ := aug h0 t c r o hm (by omega) e1 e2 e3 e4 e5
      refine ⟨c', d1, fun x a b => ?_⟩
      by_cases e : x = k
      · rw [e]; exact d3
      · exact d2 x a (by omega) (hk x a (by omega))
    · exfalso
      have hPn : ((P.toNat : Nat) : Int) = P := by omega
      let e : Int → Int := fun r => @ite _ (∃ t, Rt P A c k t r) (Classical.propDecidable _) 1 0
      have e1 : ∀ r, (∃ t, Rt P A c k t r) → e r = 1 := fun r h => if_pos h
      have e0 : ∀ r, ¬ (∃ t, Rt P A c k t r) → e r = 0 := fun r h => if_neg h
      have e01 : ∀ r, 0 ≤ e r ∧ e r ≤ 1 := fun r => by
        by_cases q : ∃ t, Rt P A c k t r
        · rw [e1 r q]; exact ⟨by decide, by decide⟩
        · rw [e0 r q]; exact ⟨by decide, by decide⟩
      have ek : e k = 1 := e1 k ⟨0, rfl⟩
      -- all that the reached rows hold
      have s1 : Sg (fun r => Sg (fun o => e r * A r o) P.toNat) P.toNat = s * Sg e P.toNat := by
        rw [← Sg_mul]
        refine Sg_c _ (fun r a b => ?_)
        rw [Sg_mul]
        rw [show Sg (fun o => A r o) P.toNat = s from hr r a (by omega), Int.mul_comm]
      rw [Sg_swap] at s1
      have col : ∀ o, 0 ≤ o → o < P → Sg (fun r => e r * A r o) P.toNat ≤ s * Sg (fun r => if c r = o then e r else 0) P.toNat := by
        intro o o0 o1
        have nn : ∀ x : Int, 0 ≤ x → x < (P.toNat : Nat) → 0 ≤ (fun r => if c r = o then e r else 0) x := fun x _ _ => by
          show 0 ≤ if c x = o then e x else 0
          split
          · exact (e01 x).1
          · decide
        have n0 : 0 ≤ Sg (fun r => if c r = o then e r else 0) P.toNat := by
          have := Sg_le (f := fun _ => 0) (g := fun r => if c r = o then e r else 0) P.toNat nn
          rw [Sg_0] at this; exact this
        by_cases w : ∃ r, (∃ t, Rt P A c k t r) ∧ 0 < A r o
        · obtain ⟨r, ⟨t, ht⟩, ha⟩ := w
          have fr : ¬ ∀ y, 0 ≤ y → y < P → c y ≠ o := fun f => ex ⟨t, r, o, ht, o0, o1, ha, f⟩
          have : ∃ y, 0 ≤ y ∧ y < P ∧ c y = o := Classical.byContradiction (fun z => fr (fun y a b cc => z ⟨y, a, b, cc⟩))
          obtain ⟨y, y0, y1, cy⟩ := this
          have ey : e y = 1 := e1 y ⟨t + 1, Or.inr ⟨⟨y0, y1, by omega⟩, r, ht, by rw [cy]; exact ha⟩⟩
          have ge := Sg_one nn y0 (by omega)
          simp only [if_pos cy, ey] at ge
          have le : Sg (fun r => e r * A r o) P.toNat ≤ s := by
            rw [← hc o o0 o1]
            refine Sg_le _ (fun x a b => ?_)
            have hx := hA x o a (by omega) o0 o1
            by_cases q : ∃ t, Rt P A c k t x
            · rw [e1 x q]; omega
            · rw [e0 x q]; omega
          have : s * 1 ≤ s * Sg (fun r => if c r = o then e r else 0) P.toNat := Int.mul_le_mul_of_nonneg_left ge (by omega)
          omega
        · have z : Sg (fun r => e r * A r o) P.toNat ≤ Sg (fun _ => 0) P.toNat := by
            refine Sg_le _ (fun x a b => ?_)
            by_cases q : ∃ t, Rt P A c k t x
            · have : ¬ 0 < A x o := fun h => w ⟨x, q, h⟩
              rw [e1 x q]; omega
            · rw [e0 x q]; omega
          rw [Sg_0] at z
          have := Int.mul_nonneg (Int.le_of_lt hs) n0
          omega
      have s2 : s * Sg e P.toNat ≤ s * Sg (fun o => Sg (fun r => if c r = o then e r else 0) P.toNat) P.toNat := by
        rw [← s1, ← Sg_mul]
        exact Sg_le _ (fun o a b => col o a (by omega))
      rw [Sg_swap] at s2
      have pt : ∀ (r : Int) (b : Nat), Sg (fun o => if c r = o then e r else 0) b ≤ (if 0 ≤ c r then e r else 0) ∧ (c r ≥ b → Sg (fun o => if c r = o then e r else 0) b ≤ 0) := by
        intro r b
        have er := e01 r
        induction b with
        | zero => refine ⟨?_, fun _ => Int.le_refl 0⟩; simp only [Sg]; split <;> omega
        | succ b ihb =>
          simp only [Sg]
          by_cases q : c r = b
          · rw [if_pos q]
            have := ihb.2 (by omega)
            rw [if_pos (show 0 ≤ c r by omega)]
            exact ⟨by omega, fun _ => by omega⟩
          · rw [if_neg q, Int.add_zero]
            exact ⟨ihb.1, fun z => ihb.2 (by omega)⟩
      have s3 : Sg (fun r => Sg (fun o => if c r = o then e r else 0) P.toNat) P.toNat ≤ Sg (fun r => e r - if r = k then 1 else 0) P.toNat := by
        refine Sg_le _ (fun r a b => ?_)
        have p1 := (pt r P.toNat).1
        have er := e01 r
        by_cases q : r = k
        · rw [q] at p1 ⊢
          rw [if_neg ck] at p1
          have z : e k - (if (k : Int) = k then 1 else 0) = 0 := by rw [if_pos rfl, ek]; rfl
          rw [z]; exact p1
        · rw [if_neg q]
          split at p1 <;> omega
      have s4 : Sg (fun r => e r - if r = k then 1 else 0) P.toNat + Sg (fun r => if r = (k : Int) then 1 else 0) P.toNat = Sg e P.toNat := by
        rw [← Sg_add]
        exact Sg_c _ (fun r a b => by omega)
      have s5 : 1 ≤ Sg (fun r => if r = (k : Int) then (1 : Int) else 0) P.toNat := by
        have := Sg_one (f := fun r => if r = (k : Int) then (1 : Int) else 0) (k := P.toNat) (fun x _ _ => by show 0 ≤ if x = (k : Int) then (1 : Int) else 0; split <;> decide) h0.1 (by omega)
        simp only [if_true] at this
        exact this
      have s6 : s * Sg (fun r => Sg (fun o => if c r = o then e r else 0) P.toNat) P.toNat ≤ s * (Sg e P.toNat - 1) := Int.mul_le_mul_of_nonneg_left (by omega) (by omega)
      rw [Int.mul_sub, Int.mul_one] at s6
      omega
end T74
