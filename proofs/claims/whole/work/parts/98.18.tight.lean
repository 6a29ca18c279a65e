section T75
theorem Sg_eq {f g : Int → Int} : ∀ k : Nat, (∀ x : Int, 0 ≤ x → x < k → f x ≤ g x) → Sg f k = Sg g k → ∀ x : Int, 0 ≤ x → x < k → f x = g x
  | 0, _, _, x, a, b => by omega
  | k + 1, h, e, x, a, b => by
    simp only [Sg] at e
    have l := Sg_le k (fun x a b => h x a (by omega))
    have m := h k (by omega) (by omega)
    by_cases q : x = k
    · rw [q]; omega
    · exact Sg_eq k (fun x a b => h x a (by omega)) (by omega) x a (by omega)
theorem Sg_k {s : Int} : ∀ k : Nat, Sg (fun _ => s) k = k * s
  | 0 => by simp [Sg]
  | k + 1 => by simp only [Sg]; rw [Sg_k k, Int.natCast_add, Int.add_mul]; omega
theorem Sg_bump {f : Int → Int} {y : Int} : ∀ k : Nat, 0 ≤ y → Sg (fun x => if x = y then f x + 1 else f x) k = Sg f k + (if y < k then 1 else 0)
  | 0, h => by simp only [Sg]; rw [if_neg (by omega)]; rfl
  | k + 1, h => by
    simp only [Sg]
    rw [Sg_bump k h]
    by_cases q : (k : Int) = y
    · rw [if_pos q, if_neg (by omega), if_pos (by omega)]; omega
    · rw [if_neg q]
      by_cases q2 : y < k
      · rw [if_pos q2, if_pos (by omega)]; omega
      · rw [if_neg q2, if_neg (by omega)]; omega
/-- a table with lines up to s is filled up to lines of s -/
theorem fill_up {P s : Int} (hp : 1 ≤ P) : ∀ (d : Nat) (L : Int → Int → Int), (∀ i, 0 ≤ i → i < P → Sg (L i) P.toNat ≤ s) → (∀ o, 0 ≤ o → o < P → Sg (fun i => L i o) P.toNat ≤ s) → Sg (fun i => Sg (L i) P.toNat) P.toNat + d = Sg (fun _ => s) P.toNat →
    ∃ A : Int → Int → Int, (∀ i o, L i o ≤ A i o) ∧ (∀ i, 0 ≤ i → i < P → Sg (A i) P.toNat = s) ∧ (∀ o, 0 ≤ o → o < P → Sg (fun i => A i o) P.toNat = s) := by
  have hPn : ((P.toNat : Nat) : Int) = P := by omega
  intro d
  induction d with
  | zero =>
    intro L hr hc e
    refine ⟨L, fun _ _ => Int.le_refl _, fun i i0 i1 => ?_, fun o o0 o1 => ?_⟩
    · exact Sg_eq P.toNat (fun x a b => hr x a (by omega)) (by omega) i i0 (by omega)
    · rw [Sg_swap] at e
      exact Sg_eq P.toNat (fun x a b => hc x a (by omega)) (by omega) o o0 (by omega)
  | succ d ih =>
    intro L hr hc e
    have e2 := e
    rw [Sg_swap] at e2
    have xr : ∃ i, 0 ≤ i ∧ i < P ∧ Sg (L i) P.toNat < s := Classical.byContradiction (fun w => by
      have : Sg (fun i => Sg (L i) P.toNat) P.toNat = Sg (fun _ => s) P.toNat := Sg_c _ (fun x a b => by
        have := hr x a (by omega)
        have : ¬ Sg (L x) P.toNat < s := fun q => w ⟨x, a, by omega, q⟩
        omega)
      clear w
      omega)
    have xc : ∃ o, 0 ≤ o ∧ o < P ∧ Sg (fun i => L i o) P.toNat < s := Classical.byContradiction (fun w => by
      have : Sg (fun o => Sg (fun i => L i o) P.toNat) P.toNat = Sg (fun _ => s) P.toNat := Sg_c _ (fun x a b => by
        have := hc x a (by omega)
        have : ¬ Sg (fun i => L i x) P.toNat < s := fun q => w ⟨x, a, by omega, q⟩
        omega)
      clear w
      omega)
    obtain ⟨i, i0, i1, hi⟩ := xr
    obtain ⟨o, o0, o1, ho⟩ := xc
    have row : ∀ x, Sg (fun y => if x = i ∧ y = o then L x y + 1 else L x y) P.toNat = if x = i then Sg (L x) P.toNat + 1 else Sg (L x) P.toNat := by
      intro x
      by_cases q : x = i
      · rw [if_pos q]
        have := Sg_bump (f := L x) (y := o) P.toNat o0
        rw [if_pos (by omega)] at this
        rw [← this]
        exact Sg_c _ (fun y _ _ => by
          by_cases q2 : y = o
          · rw [if_pos ⟨q, q2⟩, if_pos q2]
          · rw [if_neg (fun w => q2 w.2), if_neg q2])
      · rw [if_neg q]
        exact Sg_c _ (fun y _ _ => if_neg (fun w => q w.1))
    have col : ∀ y, Sg (fun x => if x = i ∧ y = o then L x y + 1 else L x y) P.toNat = if y = o then Sg (fun x => L x y) P.toNat + 1 else Sg (fun x => L x y) P.toNat := by
      intro y
      by_cases q : y = o
      · rw [if_pos q]
        have := Sg_bump (f := fun x => L x y) (y := i) P.toNat i0
        rw [if_pos (by omega)] at this
        rw [← this]
        exact Sg_c _ (fun x _ _ => by
          by_cases q2 : x = i
          · rw [if_pos ⟨q2, q⟩, if_pos q2]
          · rw [if_neg (fun w => q2 w.1), if_neg q2])
      · rw [if_neg q]
        exact Sg_c _ (fun x _ _ => if_neg (fun w => q w.2))
    have h1 : ∀ x, 0 ≤ x → x < P → Sg (fun y => if x = i ∧ y = o then L x y + 1 else L x y) P.toNat ≤ s := fun x x0 x1 => by
      rw [row x]
      have := hr x x0 x1
      by_cases q : x = i
      · rw [if_pos q, q]; omega
      · rw [if_neg q]; exact this
    have h2 : ∀ y, 0 ≤ y → y < P → Sg (fun x => if x = i ∧ y = o then L x y + 1 else L x y) P.toNat ≤ s := fun y y0 y1 => by
      rw [col y]
      have := hc y y0 y1
      by_cases q : y = o
      · rw [if_pos q, q]; omega
      · rw [if_neg q]; exact this
    have h3 : Sg (fun x => Sg (fun y => if x = i ∧ y = o then L x y + 1 else L x y) P.toNat) P.toNat + d = Sg (fun _ => s) P.toNat := by
      have t : Sg (fun x => Sg (fun y => if x = i ∧ y = o then L x y + 1 else L x y) P.toNat) P.toNat = Sg (fun x => Sg (L x) P.toNat) P.toNat + 1 := by
        have b := Sg_bump (f := fun x => Sg (L x) P.toNat) (y := i) P.toNat i0
        rw [if_pos (by omega)] at b
        rw [← b]
        exact Sg_c _ (fun x _ _ => row x)
      rw [t]; omega
    obtain ⟨A, a1, a2, a3⟩ := ih (fun x y => if x = i ∧ y = o then L x y + 1 else L x y) h1 h2 h3
    refine ⟨A, fun x y => ?_, a2, a3⟩
    have := a1 x y
    by_cases q : x = i ∧ y = o
    · simp only [if_pos q] at this; omega
    · simp only [if_neg q] at this; exact this
/-- a valid row that meets all lines of sum s -/
theorem tight_row {P s : Int} {L : Int → Int → Int} (hp : 1 ≤ P) (hs : 0 < s) (hL : ∀ i o, 0 ≤ i → i < P → 0 ≤ o → o < P → 0 ≤ L i o) (hr : ∀ i, 0 ≤ i → i < P → Sg (L i) P.toNat ≤ s) (hc : ∀ o, 0 ≤ o → o < P → Sg (fun i => L i o) P.toNat ≤ s) :
    ∃ c : Int → Int, (∀ x, 0 ≤ x → x < P → 0 ≤ c x ∧ c x ≤ P ∧ (c x < P → 0 < L x (c x) ∧ ∀ y, 0 ≤ y → y < P → c y = c x → y = x)) ∧ (∀ x, 0 ≤ x → x < P → Sg (L x) P.toNat = s → c x < P) ∧ (∀ o, 0 ≤ o → o < P → Sg (fun i => L i o) P.toNat = s → ∃ x, 0 ≤ x ∧ x < P ∧ c x = o) := by
  have hPn : ((P.toNat : Nat) : Int) = P := by omega
  have tot := Sg_le (f := fun i => Sg (L i) P.toNat) (g := fun _ => s) P.toNat (fun x a b => hr x a (by omega))
  obtain ⟨A, a1, a2, a3⟩ := fill_up hp (Sg (fun _ => s) P.toNat - Sg (fun i => Sg (L i) P.toNat) P.toNat).toNat L hr hc (by omega)
  obtain ⟨c0, m0, m1⟩ := hall hp (fun i o i0 i1 o0 o1 => Int.le_trans (hL i o i0 i1 o0 o1) (a1 i o)) hs a2 a3 P.toNat (by omega)
  have m2 : ∀ x, 0 ≤ x → x < P → 0 ≤ c0 x ∧ c0 x < P ∧ 0 < A x (c0 x) ∧ ∀ y, 0 ≤ y → y < P → c0 y = c0 x → y = x := fun x x0 x1 => by
    have q := m1 x x0 (by omega)
    rcases m0 x x0 x1 with w | w
    · omega
    · exact ⟨q, w⟩
  -- every outlet is met
  have onto : ∀ o, 0 ≤ o → o < P → ∃ x, 0 ≤ x ∧ x < P ∧ c0 x = o := by
    intro o o0 o1
    have one : ∀ (z : Int) (b : Nat), (∀ x y : Int, 0 ≤ x → x < b → 0 ≤ y → y < b → c0 x = z → c0 y = z → x = y) → Sg (fun x => if c0 x = z then 1 else 0) b ≤ 1 := by
      intro z b
      induction b with
      | zero => exact fun _ => by simp [Sg]
      | succ b ihb =>
        intro h
        simp only [Sg]
        by_cases q : c0 b = z
        · have : Sg (fun x => if c0 x = z then 1 else 0) b = Sg (fun _ => 0) b := Sg_c _ (fun x x0 x1 => if_neg (fun w => by have := h x b x0 (by omega) (by omega) (by omega) w q; omega))
          rw [this, Sg_0, if_pos q]; decide
        · rw [if_neg q, Int.add_zero]
          exact ihb (fun x y x0 x1 y0 y1 => h x y x0 (by omega) y0 (by omega))
    have hit : ∀ (z : Int) (b : Nat), 0 ≤ z → Sg (fun o => if z = o then 1 else 0) b = if z < b then 1 else 0 := by
      intro z b z0
      have := Sg_bump (f := fun _ => 0) (y := z) b z0
      rw [Sg_0] at this
      simp only [Int.zero_add] at this
      rw [← this]
      exact Sg_c _ (fun x _ _ => by
        by_cases q : z = x
        · rw [if_pos q, if_pos q.symm]
        · rw [if_neg q, if_neg (fun w => q w.symm)])
    have sw := Sg_swap (f := fun x o => if c0 x = o then (1 : Int) else 0) P.toNat P.toNat
    have l1 : Sg (fun x => Sg ((fun x o => if c0 x = o then (1 : Int) else 0) x) P.toNat) P.toNat = Sg (fun _ => 1) P.toNat := Sg_c _ (fun x x0 x1 => by
      have := m2 x x0 (by omega)
      show Sg (fun o => if c0 x = o then 1 else 0) P.toNat = 1
      rw [hit _ _ this.1, if_pos (by omega)])
    rw [l1] at sw
    have f1 := Sg_eq (f := fun o => Sg (fun x => if c0 x = o then (1 : Int) else 0) P.toNat) (g := fun _ => 1) P.toNat (fun z z0 z1 => one z P.toNat (fun x y x0 x1 y0 y1 hx hy => (m2 y y0 (by omega)).2.2.2 x x0 (by omega) (by rw [hx, hy]))) sw.symm o o0 (by omega)
    refine Classical.byContradiction (fun w => ?_)
    have : Sg (fun x => if c0 x = o then (1 : Int) else 0) P.toNat = Sg (fun _ => 0) P.toNat := Sg_c _ (fun x x0 x1 => if_neg (fun q => w ⟨x, x0, by omega, q⟩))
    rw [Sg_0] at this
    have f2 : Sg (fun x => if c0 x = o then (1 : Int) else 0) P.toNat = 1 := f1
    rw [this] at f2
    exact absurd f2 (by decide)
  refine ⟨fun x => if 0 < L x (c0 x) then c0 x else P, fun x x0 x1 => ?_, fun x x0 x1 ht => ?_, fun o o0 o1 ht => ?_⟩
  · have q := m2 x x0 x1
    by_cases w : 0 < L x (c0 x)
    · simp only [if_pos w]
      refine ⟨q.1, by omega, fun _ => ⟨w, fun y y0 y1 hy => ?_⟩⟩
      have qy := m2 y y0 y1
      split at hy
      · exact q.2.2.2 y y0 y1 hy
      · omega
    · simp only [if_neg w]
      exact ⟨by omega, by omega, fun z => by omega⟩
  · have q := m2 x x0 x1
    have eq := Sg_eq P.toNat (f := L x) (g := A x) (fun o a b => a1 x o) (by rw [ht, a2 x x0 x1]) (c0 x) q.1 (by omega)
    show (if 0 < L x (c0 x) then c0 x else P) < P
    rw [if_pos (by rw [eq]; exact q.2.2.1)]
    exact q.2.1
  · obtain ⟨x, x0, x1, hx⟩ := onto o o0 o1
    have q := m2 x x0 x1
    have eq := Sg_eq P.toNat (f := fun i => L i o) (g := fun i => A i o) (fun i a b => a1 i o) (by rw [ht, a3 o o0 o1]) x x0 (by omega)
    refine ⟨x, x0, x1, ?_⟩
    show (if 0 < L x (c0 x) then c0 x else P) = o
    have eq2 : L x o = A x o := eq
    rw [if_pos (by rw [hx, eq2, ← hx]; exact q.2.2.1)]
    exact hx
end T75
