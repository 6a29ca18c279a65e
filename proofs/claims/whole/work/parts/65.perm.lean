section T25
variable {f : Int → Int}
/-- the places met by the first x numbers of a row, as bits -/
def sn (f : Int → Int) : Nat → Int
  | 0 => 0
  | x + 1 => zor (sn f x) (zshl 1 (f x))
def bt (m v : Int) : Int := zand (zshr m v) 1
def cnt8 (m : Int) : Int := bt m 0 + bt m 1 + bt m 2 + bt m 3 + bt m 4 + bt m 5 + bt m 6 + bt m 7
theorem m256 : ∀ m : Fin 256, ∀ y : Fin 8, (0 ≤ zor (m.val : Int) (zshl 1 (y.val : Int)) ∧ zor (m.val : Int) (zshl 1 (y.val : Int)) < 256 ∧ cnt8 (zor (m.val : Int) (zshl 1 (y.val : Int))) = cnt8 (m.val : Int) + 1 - bt (m.val : Int) (y.val : Int)) := by decide +kernel
theorem m256b : ∀ m : Fin 256, ∀ y : Fin 8, ∀ v : Fin 8, bt (zor (m.val : Int) (zshl 1 (y.val : Int))) (v.val : Int) = if v = y then 1 else bt (m.val : Int) (v.val : Int) := by decide +kernel
theorem m256c : ∀ m : Fin 256, (cnt8 (m.val : Int) = 8 ↔ (m.val : Int) = 255) ∧ (m.val < 16 → (cnt8 (m.val : Int) = 4 ↔ (m.val : Int) = 15)) ∧ (m.val < 4 → (cnt8 (m.val : Int) = 2 ↔ (m.val : Int) = 3)) := by decide +kernel
theorem m256d : ∀ m : Fin 256, ∀ y : Fin 8, (m.val < 16 → y.val < 4 → zor (m.val : Int) (zshl 1 (y.val : Int)) < 16) ∧ (m.val < 4 → y.val < 2 → zor (m.val : Int) (zshl 1 (y.val : Int)) < 4) := by decide +kernel
theorem fv {N : Nat} {x : Int} (h0 : 0 ≤ x) (h1 : x < N) : (((⟨x.toNat, by omega⟩ : Fin N).val : Nat) : Int) = x := Int.toNat_of_nonneg h0
theorem or_step {m y : Int} (h0 : 0 ≤ m) (h1 : m < 256) (y0 : 0 ≤ y) (y1 : y < 8) : 0 ≤ zor m (zshl 1 y) ∧ zor m (zshl 1 y) < 256 ∧ cnt8 (zor m (zshl 1 y)) = cnt8 m + 1 - bt m y := by
  have := m256 ⟨m.toNat, by omega⟩ ⟨y.toNat, by omega⟩
  rwa [fv h0 h1, fv y0 y1] at this
theorem or_bit {m y v : Int} (h0 : 0 ≤ m) (h1 : m < 256) (y0 : 0 ≤ y) (y1 : y < 8) (v0 : 0 ≤ v) (v1 : v < 8) : bt (zor m (zshl 1 y)) v = if v = y then 1 else bt m v := by
  have := m256b ⟨m.toNat, by omega⟩ ⟨y.toNat, by omega⟩ ⟨v.toNat, by omega⟩
  rw [fv h0 h1, fv y0 y1, fv v0 v1] at this
  rw [this]
  by_cases c : v = y
  · rw [if_pos c, if_pos (by rw [Fin.mk.injEq]; omega)]
  · rw [if_neg c, if_neg (by rw [Fin.mk.injEq]; omega)]
theorem sn_R {w : Int} (hw : w ≤ 8) : ∀ x : Nat, (∀ y : Nat, y < x → 0 ≤ f y ∧ f y < w) → 0 ≤ sn f x ∧ sn f x < 256
  | 0, _ => ⟨Int.le_refl 0, (by decide : (0 : Int) < 256)⟩
  | x + 1, h => by
    have ih := sn_R hw x (fun y hy => h y (by omega))
    have := h x (by omega)
    have := or_step ih.1 ih.2 this.1 (by omega)
    exact ⟨this.1, this.2.1⟩
theorem sn_bit {w : Int} (hw : w ≤ 8) {v : Int} (v0 : 0 ≤ v) (v1 : v < 8) : ∀ x : Nat, (∀ y : Nat, y < x → 0 ≤ f y ∧ f y < w) → (bt (sn f x) v = 1 ↔ ∃ y : Nat, y < x ∧ f y = v)
  | 0, _ => by
    have : ∀ v : Fin 8, bt 0 (v.val : Int) = 0 := by decide +kernel
    have := this ⟨v.toNat, by omega⟩
    rw [fv v0 v1] at this
    simp only [sn]
    rw [this]
    exact ⟨fun q => by omega, fun ⟨y, q, _⟩ => by omega⟩
  | x + 1, h => by
    have ih := sn_bit hw v0 v1 x (fun y hy => h y (by omega))
    have r := sn_R hw x (fun y hy => h y (by omega))
    have e := h x (by omega)
    simp only [sn]
    rw [or_bit r.1 r.2 e.1 (by omega) v0 v1]
    by_cases c : v = f x
    · rw [if_pos c]
      exact ⟨fun _ => ⟨x, by omega, c.symm⟩, fun _ => rfl⟩
    · rw [if_neg c, ih]
      constructor
      · rintro ⟨y, a, b⟩; exact ⟨y, by omega, b⟩
      · rintro ⟨y, a, b⟩
        by_cases d : y = x
        · subst d; exact absurd b.symm c
        · exact ⟨y, by omega, b⟩
theorem bt_01 (m v : Int) : bt m v = 0 ∨ bt m v = 1 := zand_1 _
theorem sn_cnt {w : Int} (hw : w ≤ 8) : ∀ x : Nat, (∀ y : Nat, y < x → 0 ≤ f y ∧ f y < w) → cnt8 (sn f x) ≤ x ∧ (cnt8 (sn f x) = x ↔ ∀ y z : Nat, y < z → z < x → f y ≠ f z)
  | 0, _ => by
    have : cnt8 0 = 0 := by decide +kernel
    simp only [sn]
    rw [this]
    exact ⟨by decide, fun _ y z _ q => by omega, fun _ => rfl⟩
  | x + 1, h => by
    have ih := sn_cnt hw x (fun y hy => h y (by omega))
    have r := sn_R hw x (fun y hy => h y (by omega))
    have e := h x (by omega)
    have s := (or_step r.1 r.2 e.1 (by omega)).2.2
    have b := sn_bit hw e.1 (by omega) x (fun y hy => h y (by omega))
    have b2 := bt_01 (sn f x) (f x)
    simp only [sn]
    rw [s]
    refine ⟨by omega, fun q => ?_, fun q => ?_⟩
    · have q0 : bt (sn f x) (f x) = 0 := by omega
      have q1 := ih.2.1 (by omega)
      intro y z yz zx
      by_cases c : z = x
      · subst c
        intro eq
        have := b.2 ⟨y, yz, eq⟩
        omega
      · exact q1 y z yz (by omega)
    · have q1 := ih.2.2 (fun y z yz zx => q y z yz (by omega))
      have q0 : bt (sn f x) (f x) ≠ 1 := fun w => by
        obtain ⟨y, a, b⟩ := b.1 w
        exact q y x a (by omega) b
      omega
theorem sn_lt4 : ∀ x : Nat, (∀ y : Nat, y < x → 0 ≤ f y ∧ f y < 4) → sn f x < 16
  | 0, _ => (by decide : (0 : Int) < 16)
  | x + 1, h => by
    have r := sn_R (w := 4) (by decide) x (fun y hy => h y (by omega))
    have i := sn_lt4 x (fun y hy => h y (by omega))
    have e := h x (by omega)
    have := (m256d ⟨(sn f x).toNat, by omega⟩ ⟨(f x).toNat, by omega⟩).1 (by simp only; omega) (by simp only; omega)
    rwa [fv r.1 r.2, fv e.1 (by omega)] at this
theorem sn_lt2 : ∀ x : Nat, (∀ y : Nat, y < x → 0 ≤ f y ∧ f y < 2) → sn f x < 4
  | 0, _ => (by decide : (0 : Int) < 4)
  | x + 1, h => by
    have r := sn_R (w := 2) (by decide) x (fun y hy => h y (by omega))
    have i := sn_lt2 x (fun y hy => h y (by omega))
    have e := h x (by omega)
    have := (m256d ⟨(sn f x).toNat, by omega⟩ ⟨(f x).toNat, by omega⟩).2 (by simp only; omega) (by simp only; omega)
    rwa [fv r.1 r.2, fv e.1 (by omega)] at this
/-- all places are met just if no two numbers are alike -/
theorem sn_full {w : Nat} (hw : w = 2 ∨ w = 4 ∨ w = 8) (h : ∀ y : Nat, y < w → 0 ≤ f y ∧ f y < w) : sn f w = zshl 1 w - 1 ↔ ∀ y z : Nat, y < z → z < w → f y ≠ f z := by
  have r := sn_R (w := w) (by omega) w h
  rw [← (sn_cnt (w := w) (by omega) w h).2]
  have c := m256c ⟨(sn f w).toNat, by omega⟩
  rw [fv r.1 r.2] at c
  rcases hw with rfl | rfl | rfl
  · rw [show zshl 1 ((2 : Nat) : Int) - 1 = 3 by decide +kernel]
    exact (c.2.2 (by have := sn_lt2 2 h; simp only; omega)).symm
  · rw [show zshl 1 ((4 : Nat) : Int) - 1 = 15 by decide +kernel]
    exact (c.2.1 (by have := sn_lt4 4 h; simp only; omega)).symm
  · rw [show zshl 1 ((8 : Nat) : Int) - 1 = 255 by decide +kernel]
    exact c.1.symm
theorem Ij_nat {w : Nat} : Ij w f ↔ (∀ y : Nat, y < w → 0 ≤ f y ∧ f y < w) ∧ (∀ y z : Nat, y < z → z < w → f y ≠ f z) := by
  constructor
  · rintro ⟨a, b⟩
    refine ⟨fun y hy => a y (by omega) (by omega), fun y z yz zw q => ?_⟩
    have := b y z (by omega) (by omega) (by omega) (by omega) q
    omega
  · rintro ⟨a, b⟩
    refine ⟨fun x h0 h1 => ?_, fun x y h0 h1 h2 h3 q => ?_⟩
    · have := a x.toNat (by omega)
      rwa [Int.toNat_of_nonneg h0] at this
    · have e1 := Int.toNat_of_nonneg h0
      have e2 := Int.toNat_of_nonneg h2
      by_cases c : x = y
      · exact c
      · exfalso
        by_cases d : x < y
        · exact b x.toNat y.toNat (by omega) (by omega) (by rw [e1, e2]; exact q)
        · exact b y.toNat x.toNat (by omega) (by omega) (by rw [e1, e2]; exact q.symm)
end T25
