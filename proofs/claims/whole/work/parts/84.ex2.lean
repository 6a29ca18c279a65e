section T44
variable {G : zG} {n : Nat} {μ ν : zM}
theorem or15 : ∀ x y z w : Fin 4, (2 ^ x.val ||| 2 ^ y.val ||| 2 ^ z.val ||| 2 ^ w.val) = 15 → x.val ≠ y.val ∧ x.val ≠ z.val ∧ x.val ≠ w.val ∧ y.val ≠ z.val ∧ y.val ≠ w.val ∧ z.val ≠ w.val := by decide +kernel
theorem or3 : ∀ x y : Fin 2, (2 ^ x.val ||| 2 ^ y.val) = 3 → x.val ≠ y.val := by decide +kernel
theorem bit16 : ∀ b : Fin 16, ∀ i : Fin 4, zand (zshr (b.val : Int) (i.val : Int)) 1 = ((b.val / 2 ^ i.val % 2 : Nat) : Int) := by decide +kernel
theorem Hok_of {fr w : Int} {f : Int → Int} (hw : w ≤ 8) (h : ∀ v i i' : Int, (v = 0 ∨ v = 1) → 0 ≤ i → i < i' → i' < (w + 1) / 2 → ing fr f v i ≠ ing fr f v i') : Hok fr f w := by
  intro x' x a b c ⟨e1, e2⟩
  by_cases d : x' / 2 = x / 2
  · have a1 := nt_i (fr := fr) (x := x') a (by omega)
    have a2 := nt_i (fr := fr) (x := x) (by omega) (by omega)
    rw [e1, d, ← a2] at a1
    omega
  · refine h (nt fr x) (x' / 2) (x / 2) (nt_b fr x) (by omega) (by omega) (by omega) ?_
    rw [ing_x (by omega) (by omega), ← e1, ing_x a (by omega)]
    exact e2
theorem pk_ing {f : Int → Int} {b i v : Nat} (hb : b < 16) (hi : i < 4) (hv : v < 2) (hf : ∀ x : Int, 0 ≤ x → x < 8 → 0 ≤ f x) (h8 : 2 * i + 1 < 8) : ing (b : Int) f v i = (pk b i v (f (2 * i : Nat) / 2).toNat (f (2 * i + 1 : Nat) / 2).toNat : Nat) := by
  unfold ing pk
  have e := bit16 ⟨b, hb⟩ ⟨i, hi⟩
  simp only at e
  rw [e, zxor_b (by omega) (by omega)]
  have f0 := hf (2 * i : Nat) (by omega) (by omega)
  have f1 := hf (2 * i + 1 : Nat) (by omega) (by omega)
  by_cases c : (b / 2 ^ i + v) % 2 = 0
  · rw [if_pos (by omega), if_pos c]
    rw [show 2 * (i : Int) + 0 = ((2 * i : Nat) : Int) by omega]
    omega
  · rw [if_neg (by omega), if_neg c]
    rw [show 2 * (i : Int) + 1 = ((2 * i + 1 : Nat) : Int) by omega]
    omega
theorem three {w : Int} {f : Int → Int} (h : Ij w f) {x y z : Int} (x0 : 0 ≤ x) (xy : x < y) (yz : y < z) (zw : z < w) : ¬ (f x / 2 = f y / 2 ∧ f y / 2 = f z / 2) := by
  rintro ⟨a, b⟩
  have n1 : f x ≠ f y := fun q => by have := h.2 x y x0 (by omega) (by omega) (by omega) q; omega
  have n2 : f y ≠ f z := fun q => by have := h.2 y z (by omega) (by omega) (by omega) zw q; omega
  have n3 : f x ≠ f z := fun q => by have := h.2 x z x0 (by omega) (by omega) zw q; omega
  omega
theorem pkx_lt {b i v x y m : Nat} (hx : x < m) (hy : y < m) : pk b i v x y < m := by unfold pk; split <;> assumption
theorem ex8 {f : Int → Int} (h : Ij 8 f) : ∃ b : Nat, b < 16 ∧ Hok b f 8 := by
  obtain ⟨b, b1, b2⟩ := ex8_use (fun x => (f (x : Nat) / 2).toNat) (fun x hx => by have := h.1 x (by omega) (by omega); omega) (fun x y z xy yz zw q => by
    have fx := h.1 x (by omega) (by omega)
    have fy := h.1 y (by omega) (by omega)
    have fz := h.1 z (by omega) (by omega)
    exact three h (x := x) (y := y) (z := z) (by omega) (by omega) (by omega) (by omega) (by omega))
  refine ⟨b, b1, Hok_of (by decide) (fun v i i' hv i0 ii i1 => ?_)⟩
  have fr : ∀ x : Int, 0 ≤ x → x < 8 → 0 ≤ f x := fun x a b => (h.1 x a b).1
  have fl : ∀ x : Nat, x < 8 → (f (x : Nat) / 2).toNat < 4 := fun x hx => by have := h.1 x (by omega) (by omega); omega
  unfold ok8 at b2
  rw [Bool.and_eq_true, beq_iff_eq, beq_iff_eq] at b2
  have key : ∀ v : Nat, v < 2 → ∀ i i' : Nat, i < i' → i' < 4 → pk b i v (f (2 * i : Nat) / 2).toNat (f (2 * i + 1 : Nat) / 2).toNat ≠ pk b i' v (f (2 * i' : Nat) / 2).toNat (f (2 * i' + 1 : Nat) / 2).toNat := by
    intro v hv
    have D : (pk b 0 v (f (0 : Nat) / 2).toNat (f (1 : Nat) / 2).toNat ≠ pk b 1 v (f (2 : Nat) / 2).toNat (f (3 : Nat) / 2).toNat) ∧ (pk b 0 v (f (0 : Nat) / 2).toNat (f (1 : Nat) / 2).toNat ≠ pk b 2 v (f (4 : Nat) / 2).toNat (f (5 : Nat) / 2).toNat) ∧ (pk b 0 v (f (0 : Nat) / 2).toNat (f (1 : Nat) / 2).toNat ≠ pk b 3 v (f (6 : Nat) / 2).toNat (f (7 : Nat) / 2).toNat) ∧ (pk b 1 v (f (2 : Nat) / 2).toNat (f (3 : Nat) / 2).toNat ≠ pk b 2 v (f (4 : Nat) / 2).toNat (f (5 : Nat) / 2).toNat) ∧ (pk b 1 v (f (2 : Nat) / 2).toNat (f (3 : Nat) / 2).toNat ≠ pk b 3 v (f (6 : Nat) / 2).toNat (f (7 : Nat) / 2).toNat) ∧ (pk b 2 v (f (4 : Nat) / 2).toNat (f (5 : Nat) / 2).toNat ≠ pk b 3 v (f (6 : Nat) / 2).toNat (f (7 : Nat) / 2).toNat) := by
      have : v = 0 ∨ v = 1 := by omega
      rcases this with rfl | rfl
      · exact or15 ⟨_, pkx_lt (fl 0 (by decide)) (fl 1 (by decide))⟩ ⟨_, pkx_lt (fl 2 (by decide)) (fl 3 (by decide))⟩ ⟨_, pkx_lt (fl 4 (by decide)) (fl 5 (by decide))⟩ ⟨_, pkx_lt (fl 6 (by decide)) (fl 7 (by decide))⟩ b2.1
      · exact or15 ⟨_, pkx_lt (fl 0 (by decide)) (fl 1 (by decide))⟩ ⟨_, pkx_lt (fl 2 (by decide)) (fl 3 (by decide))⟩ ⟨_, pkx_lt (fl 4 (by decide)) (fl 5 (by decide))⟩ ⟨_, pkx_lt (fl 6 (by decide)) (fl 7 (by decide))⟩ b2.2
    intro i i' a c
    have : (i = 0 ∧ i' = 1) ∨ (i = 0 ∧ i' = 2) ∨ (i = 0 ∧ i' = 3) ∨ (i = 1 ∧ i' = 2) ∨ (i = 1 ∧ i' = 3) ∨ (i = 2 ∧ i' = 3) := by omega
    rcases this with ⟨rfl, rfl⟩ | ⟨rfl, rfl⟩ | ⟨rfl, rfl⟩ | ⟨rfl, rfl⟩ | ⟨rfl, rfl⟩ | ⟨rfl, rfl⟩
    · exact D.1
    · exact D.2.1
    · exact D.2.2.1
    · exact D.2.2.2.1
    · exact D.2.2.2.2.1
    · exact D.2.2.2.2.2
  have e1 := pk_ing (f := f) (b := b) (i := i.toNat) (v := v.toNat) b1 (by omega) (by omega) fr (by omega)
  have e2 := pk_ing (f := f) (b := b) (i := i'.toNat) (v := v.toNat) b1 (by omega) (by omega) fr (by omega)
  rw [Int.toNat_of_nonneg (show 0 ≤ v by omega), Int.toNat_of_nonneg i0] at e1
  rw [Int.toNat_of_nonneg (show 0 ≤ v by omega), Int.toNat_of_nonneg (show 0 ≤ i' by omega)] at e2
  rw [e1, e2]
  have := key v.toNat (by omega) i.toNat i'.toNat (by omega) (by omega)
  omega
theorem ex4 {f : Int → Int} (h : Ij 4 f) : ∃ b : Nat, b < 4 ∧ Hok b f 4 := by
  obtain ⟨b, b1, b2⟩ := ex4_use (fun x => (f (x : Nat) / 2).toNat) (fun x hx => by have := h.1 x (by omega) (by omega); omega) (fun x y z xy yz zw q => by
    have fx := h.1 x (by omega) (by omega)
    have fy := h.1 y (by omega) (by omega)
    have fz := h.1 z (by omega) (by omega)
    exact three h (x := x) (y := y) (z := z) (by omega) (by omega) (by omega) (by omega) (by omega))
  refine ⟨b, b1, Hok_of (by decide) (fun v i i' hv i0 ii i1 => ?_)⟩
  have fl : ∀ x : Nat, x < 4 → (f (x : Nat) / 2).toNat < 2 := fun x hx => by have := h.1 x (by omega) (by omega); omega
  unfold ok4 at b2
  rw [Bool.and_eq_true, beq_iff_eq, beq_iff_eq] at b2
  have hi : i = 0 ∧ i' = 1 := by omega
  have pk4 : ∀ (v i : Nat), i < 2 → v < 2 → ing (b : Int) f v i = (pk b i v (f (2 * i : Nat) / 2).toNat (f (2 * i + 1 : Nat) / 2).toNat : Nat) := fun v i hi hv => by
    unfold ing pk
    have e := bit16 ⟨b, by omega⟩ ⟨i, by omega⟩
    simp only at e
    rw [e, zxor_b (by omega) (by omega)]
    have f0 := h.1 (2 * i : Nat) (by omega) (by omega)
    have f1 := h.1 (2 * i + 1 : Nat) (by omega) (by omega)
    by_cases c : (b / 2 ^ i + v) % 2 = 0
    · rw [if_pos (by omega), if_pos c]
      rw [show 2 * (i : Int) + 0 = ((2 * i : Nat) : Int) by omega]
      omega
    · rw [if_neg (by omega), if_neg c]
      rw [show 2 * (i : Int) + 1 = ((2 * i + 1 : Nat) : Int) by omega]
      omega
  have e1 := pk4 v.toNat 0 (by decide) (by omega)
  have e2 := pk4 v.toNat 1 (by decide) (by omega)
  rw [Int.toNat_of_nonneg (show 0 ≤ v by omega)] at e1 e2
  rw [hi.1, hi.2]
  have D : pk b 0 v.toNat (f (0 : Nat) / 2).toNat (f (1 : Nat) / 2).toNat ≠ pk b 1 v.toNat (f (2 : Nat) / 2).toNat (f (3 : Nat) / 2).toNat := by
    rcases hv with rfl | rfl
    · exact or3 ⟨_, pkx_lt (fl 0 (by decide)) (fl 1 (by decide))⟩ ⟨_, pkx_lt (fl 2 (by decide)) (fl 3 (by decide))⟩ b2.1
    · exact or3 ⟨_, pkx_lt (fl 0 (by decide)) (fl 1 (by decide))⟩ ⟨_, pkx_lt (fl 2 (by decide)) (fl 3 (by decide))⟩ b2.2
  intro q
  apply D
  have e1' : ing (b : Int) f v 0 = _ := e1
  have e2' : ing (b : Int) f v 1 = _ := e2
  rw [e1', e2'] at q
  exact Int.ofNat_inj.mp q
/-- inner orders are orders -/
theorem ing_Ij {w : Int} (hw : w = 4 ∨ w = 8) {fr : Int} {f : Int → Int} (h : ∀ x, 0 ≤ x → x < w → 0 ≤ f x ∧ f x < w) (hh : Hok fr f w) {v : Int} (hv : v = 0 ∨ v = 1) : Ij (w / 2) (ing fr f v) := by
  have X : ∀ i, 0 ≤ i → i < w / 2 → 0 ≤ 2 * i + zxor v (zand (zshr fr i) 1) ∧ 2 * i + zxor v (zand (zshr fr i) 1) < w ∧ nt fr (2 * i + zxor v (zand (zshr fr i) 1)) = v ∧ (2 * i + zxor v (zand (zshr fr i) 1)) / 2 = i := fun i i0 i1 => by
    have xb : zxor v (zand (zshr fr i) 1) = 0 ∨ zxor v (zand (zshr fr i) 1) = 1 := by
      rw [zxor_b hv (zand_1 _)]; split <;> simp
    have ey : (2 * i + zxor v (zand (zshr fr i) 1)) / 2 = i := by omega
    refine ⟨by omega, by omega, ?_, ey⟩
    unfold nt
    rw [ey, (x8 (by omega) (by omega)).1, zxor_b (by omega) (zand_1 _)]
    have e3 := zxor_b hv (zand_1 (zshr fr i))
    have b := zand_1 (zshr fr i)
    split at e3 <;> split <;> omega
  refine ⟨fun i i0 i1 => ?_, fun i i' i0 i1 j0 j1 q => ?_⟩
  · obtain ⟨a, b, _, _⟩ := X i i0 i1
    have := h _ a b
    unfold ing
    omega
  · obtain ⟨a, b, c, d⟩ := X i i0 i1
    obtain ⟨a', b', c', d'⟩ := X i' j0 j1
    unfold ing at q
    by_cases e : i = i'
    · exact e
    · exfalso
      by_cases g : i < i'
      · exact hh _ _ a (by omega) b' ⟨by rw [c, c'], q⟩
      · exact hh _ _ a' (by omega) b ⟨by rw [c, c'], q.symm⟩
end T44
