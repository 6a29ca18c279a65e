section T49
variable {G : zG} {n : Nat} {μ ν : zM}
theorem clr256 : ∀ m : Fin 256, ∀ y : Fin 8, (0 ≤ zand (m.val : Int) (zxor (zshl 1 (y.val : Int)) (-1)) ∧ zand (m.val : Int) (zxor (zshl 1 (y.val : Int)) (-1)) < 256) ∧ ∀ v : Fin 8, bt (zand (m.val : Int) (zxor (zshl 1 (y.val : Int)) (-1))) (v.val : Int) = if v = y then 0 else bt (m.val : Int) (v.val : Int) := by decide +kernel
theorem clr_bit {m y : Int} (h0 : 0 ≤ m) (h1 : m < 256) (y0 : 0 ≤ y) (y1 : y < 8) : (0 ≤ zand m (zxor (zshl 1 y) (-1)) ∧ zand m (zxor (zshl 1 y) (-1)) < 256) ∧ ∀ v, 0 ≤ v → v < 8 → bt (zand m (zxor (zshl 1 y) (-1))) v = if v = y then 0 else bt m v := by
  have := clr256 ⟨m.toNat, by omega⟩ ⟨y.toNat, by omega⟩
  rw [fv h0 h1, fv y0 y1] at this
  refine ⟨this.1, fun v v0 v1 => ?_⟩
  have e := this.2 ⟨v.toNat, by omega⟩
  rw [fv v0 v1] at e
  rw [e]
  by_cases c : v = y
  · rw [if_pos c, if_pos (by rw [Fin.mk.injEq]; omega)]
  · rw [if_neg c, if_neg (by rw [Fin.mk.injEq]; omega)]
theorem bt_t {r : Nat} (hr : r < 256) {a : Int} (a0 : 0 ≤ a) (a1 : a < 8) : bt (r : Int) a = if r.testBit a.toNat then 1 else 0 := btn hr a0 a1
theorem and_0 {m k : Int} (h0 : 0 ≤ m) (h1 : m < 256) (k0 : 0 ≤ k) (k1 : k < 256) : (zand m k = 0 ↔ ∀ y, 0 ≤ y → y < 8 → ¬ (bt m y = 1 ∧ bt k y = 1)) ∧ 0 ≤ zand m k ∧ zand m k < 256 := by
  obtain ⟨a, rfl⟩ := Int.eq_ofNat_of_zero_le h0
  obtain ⟨b, rfl⟩ := Int.eq_ofNat_of_zero_le k0
  have e := zand_nat (a := a) (b := b) (by omega) (by omega)
  have l : a &&& b ≤ a := Nat.and_le_left
  rw [e]
  refine ⟨⟨fun q y y0 y1 => ?_, fun q => ?_⟩, by omega, by omega⟩
  · have q : a &&& b = 0 := by omega
    rw [bt_t (by omega) y0 y1, bt_t (by omega) y0 y1]
    rintro ⟨u, v⟩
    have t : (a &&& b).testBit y.toNat = true := by
      rw [Nat.testBit_and]
      cases c : a.testBit y.toNat with
      | false => rw [c] at u; exact absurd u (by decide)
      | true =>
        cases d : b.testBit y.toNat with
        | false => rw [d] at v; exact absurd v (by decide)
        | true => rfl
    rw [q, Nat.zero_testBit] at t; cases t
  · have : a &&& b = 0 := by
      apply Nat.eq_of_testBit_eq
      intro i
      rw [Nat.zero_testBit, Nat.testBit_and]
      by_cases c : i < 8
      · have := q i (by omega) (by omega)
        rw [bt_t (by omega) (by omega) (by omega), bt_t (by omega) (by omega) (by omega), Int.toNat_natCast] at this
        cases x : a.testBit i <;> cases y : b.testBit i <;> simp [x, y] at this ⊢
      · have : a.testBit i = false := Nat.testBit_lt_two_pow (Nat.lt_of_lt_of_le (show a < 2 ^ 8 by omega) (Nat.pow_le_pow_right (by decide) (by omega)))
        rw [this]; rfl
    rw [this]; rfl
/-- how many sets are begun -/
def sa (p : Int → Int) : Nat → Int
  | 0 => 0
  | x + 1 => max (sa p x) (p x + 1)
def upd1 (p : Int → Int) (x s : Int) : Int → Int := fun y => if y = x then s else p y
theorem sa_ext {p q : Int → Int} : ∀ x : Nat, (∀ y : Int, 0 ≤ y → y < x → p y = q y) → sa p x = sa q x
  | 0, _ => rfl
  | x + 1, h => by simp only [sa]; rw [sa_ext x (fun y a b => h y a (by omega)), h x (by omega) (by omega)]
theorem sa_upd {p : Int → Int} {x : Nat} {s : Int} : sa (upd1 p x s) (x + 1) = max (sa p x) (s + 1) := by
  simp only [sa]
  rw [sa_ext (q := p) x (fun y a b => by unfold upd1; rw [if_neg (by omega)])]
  unfold upd1; rw [if_pos rfl]
/-- a prefix as restricted growth has it -/
def Rg (p : Int → Int) (x : Nat) : Prop := ∀ y : Nat, y < x → 0 ≤ p y ∧ p y ≤ y
theorem sa_r {p : Int → Int} : ∀ x : Nat, Rg p x → 0 ≤ sa p x ∧ sa p x ≤ x
  | 0, _ => ⟨Int.le_refl 0, Int.le_refl 0⟩
  | x + 1, h => by
    have ih := sa_r x (fun y hy => h y (by omega))
    have := h x (by omega)
    simp only [sa]; omega
/-- no inlet before x in the set s clashes with x -/
def okp (CL : Int → Int → Prop) (x s : Int) (p : Int → Int) : Prop := ∀ y, 0 ≤ y → y < x → p y = s → ¬ CL x y
def tryS (F : Int → Option (Int → Int)) : Nat → Int → Option (Int → Int)
  | 0, _ => none
  | m + 1, s => match F s with
    | some q => some q
    | none => tryS F m (s + 1)
noncomputable def fs (CL : Int → Int → Prop) (sets : Int) : Nat → Nat → (Int → Int) → Option (Int → Int)
  | 0, _, p => some p
  | g + 1, x, p => tryS (fun s => @ite (Option (Int → Int)) (okp CL x s p) (Classical.propDecidable _) (fs CL sets g (x + 1) (upd1 p x s)) none) (min (sa p x + 1) sets).toNat 0
noncomputable def fF (CL : Int → Int → Prop) (sets : Int) (g x : Nat) (p : Int → Int) (s : Int) : Option (Int → Int) := @ite (Option (Int → Int)) (okp CL x s p) (Classical.propDecidable _) (fs CL sets g (x + 1) (upd1 p x s)) none
theorem fs_s (CL : Int → Int → Prop) (sets : Int) (g x : Nat) (p : Int → Int) : fs CL sets (g + 1) x p = tryS (fF CL sets g x p) (min (sa p x + 1) sets).toNat 0 := rfl
theorem tryS_s (F : Int → Option (Int → Int)) (m : Nat) (s : Int) : tryS F (m + 1) s = match F s with | some q => some q | none => tryS F m (s + 1) := rfl
theorem tryS_ex {F : Int → Option (Int → Int)} : ∀ (m : Nat) (s : Int) (k : Nat), k < m → F (s + k) ≠ none → tryS F m s ≠ none
  | 0, _, k, h, _ => absurd h (by omega)
  | m + 1, s, 0, _, h => by
    rw [tryS_s]
    rw [show s + ((0 : Nat) : Int) = s by omega] at h
    cases e : F s with
    | some q => simp
    | none => exact absurd e h
  | m + 1, s, k + 1, hk, h => by
    rw [tryS_s]
    cases e : F s with
    | some q => simp
    | none =>
      refine tryS_ex m (s + 1) k (by omega) ?_
      rw [show s + 1 + (k : Int) = s + ((k + 1 : Nat) : Int) by omega]; exact h
theorem sa_ge {p : Int → Int} : ∀ (x : Nat) (y : Int), 0 ≤ y → y < x → p y < sa p x
  | 0, y, a, b => by omega
  | x + 1, y, a, b => by
    simp only [sa]
    by_cases c : y = x
    · rw [c]; omega
    · have := sa_ge (p := p) x y a (by omega)
      omega
/-- as many sets as inlets are enough -/
theorem fs_ex (CL : Int → Int → Prop) (w : Nat) : ∀ (g x : Nat) (p : Int → Int), x + g = w → Rg p x → fs CL w g x p ≠ none
  | 0, x, p, _, _ => by simp [fs]
  | g + 1, x, p, h, hr => by
    have r := sa_r x hr
    rw [fs_s]
    refine tryS_ex _ 0 (sa p x).toNat (by omega) ?_
    rw [Int.zero_add, Int.toNat_of_nonneg r.1]
    unfold fF
    rw [if_pos (show okp CL x (sa p x) p from fun y a b c => by have := sa_ge (p := p) x y a b; omega)]
    refine fs_ex CL w g (x + 1) _ (by omega) (fun y hy => ?_)
    unfold upd1
    by_cases c : (y : Int) = x
    · rw [if_pos c]; omega
    · rw [if_neg c]; exact hr y (by omega)
theorem upd_Rg {p : Int → Int} {x : Nat} {s : Int} (h : Rg p x) (s0 : 0 ≤ s) (s1 : s ≤ x) : Rg (upd1 p x s) (x + 1) := by
  intro y hy
  unfold upd1
  by_cases c : (y : Int) = x
  · rw [if_pos c]; omega
  · rw [if_neg c]; exact h y (by omega)
end T49
