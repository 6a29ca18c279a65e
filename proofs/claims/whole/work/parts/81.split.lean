section T41
variable {G : zG} {n : Nat} {μ ν : zM}
/-- a first row leads no two inlets to one inner outlet -/
def Hok (fr : Int) (f : Int → Int) (w : Int) : Prop := ∀ x' x : Int, 0 ≤ x' → x' < x → x < w → ¬ (nt fr x' = nt fr x ∧ f x' / 2 = f x / 2)
/-- the last row that goes with a first row -/
def lr (fr : Int) (f : Int → Int) : Nat → Int
  | 0 => 0
  | x + 1 => if f x % 2 = nt fr x then lr fr f x else zor (lr fr f x) (zshl 1 (f x / 2))
/-- the orders of the inner nets -/
def ing (fr : Int) (f : Int → Int) (v i : Int) : Int := f (2 * i + zxor v (zand (zshr fr i) 1)) / 2
theorem nt_i {fr x : Int} (h0 : 0 ≤ x) (h1 : x < 8) : x = 2 * (x / 2) + zxor (nt fr x) (zand (zshr fr (x / 2)) 1) := by
  have b := zand_1 (zshr fr (x / 2))
  have e := (x8 h0 h1).1
  have n := nt_b fr x
  have e2 : nt fr x = if x % 2 = zand (zshr fr (x / 2)) 1 then 0 else 1 := by
    unfold nt; rw [e, zxor_b (by omega) b]
  rw [zxor_b n b]
  split at e2 <;> split <;> omega
theorem ing_x {fr x : Int} {f : Int → Int} (h0 : 0 ≤ x) (h1 : x < 8) : ing fr f (nt fr x) (x / 2) = f x / 2 := by
  unfold ing
  rw [← nt_i h0 h1]
theorem lr_R {fr : Int} {f : Int → Int} : ∀ x : Nat, x ≤ 8 → (∀ y : Nat, y < x → 0 ≤ f y ∧ f y < 8) → 0 ≤ lr fr f x ∧ lr fr f x < 16
  | 0, _, _ => ⟨Int.le_refl 0, (by decide : (0 : Int) < 16)⟩
  | x + 1, hx, h => by
    have ih := lr_R (fr := fr) x (by omega) (fun y hy => h y (by omega))
    have e := h x (by omega)
    simp only [lr]
    split
    · exact ih
    · have o := or_step ih.1 (by omega) (y := f x / 2) (by omega) (by omega)
      have := (m256d ⟨(lr fr f x).toNat, by omega⟩ ⟨(f x / 2).toNat, by omega⟩).1 (by simp only; omega) (by simp only; omega)
      rw [fv ih.1 (by omega), fv (by omega) (by omega)] at this
      exact ⟨o.1, this⟩
theorem lr_R4 {fr : Int} {f : Int → Int} : ∀ x : Nat, x ≤ 4 → (∀ y : Nat, y < x → 0 ≤ f y ∧ f y < 4) → 0 ≤ lr fr f x ∧ lr fr f x < 4
  | 0, _, _ => ⟨Int.le_refl 0, (by decide : (0 : Int) < 4)⟩
  | x + 1, hx, h => by
    have ih := lr_R4 (fr := fr) x (by omega) (fun y hy => h y (by omega))
    have e := h x (by omega)
    simp only [lr]
    split
    · exact ih
    · have o := or_step ih.1 (by omega) (y := f x / 2) (by omega) (by omega)
      have := (m256d ⟨(lr fr f x).toNat, by omega⟩ ⟨(f x / 2).toNat, by omega⟩).2 (by simp only; omega) (by simp only; omega)
      rw [fv ih.1 (by omega), fv (by omega) (by omega)] at this
      exact ⟨o.1, this⟩
theorem y8_bits : ∀ y : Fin 8, zshr (y.val : Int) 1 = (y.val : Int) / 2 ∧ zand (y.val : Int) 1 = (y.val : Int) % 2 := by decide +kernel
theorem zshl_0 : ∀ y : Fin 8, zshl 0 (y.val : Int) = 0 := by decide +kernel
theorem c1_splitBy (hn : 154 ≤ n) {k from' fr : Int} {w : Nat} (hk : k = 2 ∧ w = 4 ∧ (from' = 0 ∨ from' = 4) ∨ k = 3 ∧ w = 8 ∧ from' = 0) {f : Int → Int} (hf : ∀ x : Int, 0 ≤ x → x < w → μ (22 + k) (from' + x) = f x ∧ 0 ≤ f x ∧ f x < w) {K : Int → zM → Prop}
    (h1 : Hok fr f w → ∀ ν : zM, (∀ v i : Int, (v = 0 ∨ v = 1) → 0 ≤ i → i < w / 2 → ν (21 + k) (v * (w / 2) + i) = ing fr f v i) → (∀ a j, a ≠ 21 + k → ν a j = μ a j) → K (lr fr f w) ν)
    (h0 : ¬ Hok fr f w → ∀ ν : zM, (∀ a j, a ≠ 21 + k → ν a j = μ a j) → K (-9) ν) : mX1_splitBy G n fr k from' μ K := by
  have ew : zshl 1 k = w ∧ zdiv (zshl 1 k) 2 = (w / 2 : Int) := by rcases hk with ⟨rfl, rfl, _⟩ | ⟨rfl, rfl, _⟩ <;> decide +kernel
  refine eX1_splitBy (by omega) (fun v1 e1 v2 e2 => ?_)
  rw [e1] at e2
  rw [e1, e2, ew.2, ew.1]
  have gb : ∀ x : Nat, x < w → 0 ≤ nt fr x * (w / 2) + f x / 2 ∧ nt fr x * (w / 2) + f x / 2 < 8 := fun x hx => by
    have := hf x (by omega) (by omega)
    rcases nt_b fr x with q | q <;> rw [q] <;> omega
  have key : ∀ (g x : Nat) (ν : zM), x + g = w → (∀ x' x2 : Int, 0 ≤ x' → x' < x2 → x2 < x → ¬ (nt fr x' = nt fr x2 ∧ f x' / 2 = f x2 / 2)) → (∀ y : Int, 0 ≤ y → y < x → ν (21 + k) (nt fr y * (w / 2) + y / 2) = f y / 2) → (∀ a j, a ≠ 21 + k → ν a j = μ a j) → pX1_splitBy G n K 20 [some (Rv G 19), some (Iv fr), some (Iv k), some (Iv from'), some (Iv w), some (Iv (w / 2)), some (Iv (lr fr f x)), some (Iv (sn (fun y => nt fr y * (w / 2) + f y / 2) x)), some (Iv x), none, none, none] [] ν := by
    intro g
    induction g with
    | zero =>
      intro x ν ex hd hi hfr
      have : x = w := by omega
      subst this
      refine bX1_splitBy_20 (by omega) ?_
      simp (disch := omega) only [wr_of]
      refine ⟨fun _ => h1 hd ν (fun v i hv i0 i1 => ?_) hfr, fun z => by omega⟩
      have xb : zxor v (zand (zshr fr i) 1) = 0 ∨ zxor v (zand (zshr fr i) 1) = 1 := by
        rw [zxor_b hv (zand_1 _)]; split <;> simp
      have y0 : 0 ≤ 2 * i + zxor v (zand (zshr fr i) 1) := by omega
      have y8 : 2 * i + zxor v (zand (zshr fr i) 1) < 8 := by omega
      have ey : (2 * i + zxor v (zand (zshr fr i) 1)) / 2 = i := by omega
      have en : nt fr (2 * i + zxor v (zand (zshr fr i) 1)) = v := by
        unfold nt
        rw [ey, (x8 y0 y8).1, zxor_b (by omega) (zand_1 _)]
        have e3 := zxor_b hv (zand_1 (zshr fr i))
        have b := zand_1 (zshr fr i)
        split at e3 <;> split <;> omega
      have := hi (2 * i + zxor v (zand (zshr fr i) 1)) y0 (by omega)
      rw [en, ey] at this
      exact this
    | succ g ih =>
      intro x ν ex hd hi hfr
      have fx := hf x (by omega) (by omega)
      have sr := sn_R (f := fun y => nt fr y * (w / 2) + f y / 2) (w := 8) (by decide) x (fun y hy => gb y (by omega))
      have lrr := lr_R (fr := fr) (f := f) x (by omega) (fun y hy => by have := hf y (by omega) (by omega); omega)
      have fy : ν (22 + k) (from' + x) = f x := by rw [hfr _ _ (by omega)]; exact fx.1
      have yb := y8_bits ⟨(f x).toNat, by omega⟩
      rw [fv fx.2.1 (by omega)] at yb
      have xx := x8 (x := x) (by omega) (by omega)
      have nb := nt_b fr x
      refine bX1_splitBy_20 (by omega) ?_
      rw [show (21 : Int) + 1 = 22 from rfl]
      simp (disch := omega) only [wr_of]
      refine ⟨fun z => by omega, fun _ => ⟨by omega, by omega, fun v4 e4 => ?_⟩⟩
      rw [fy] at e4
      rw [e4, xx.2, yb.1, yb.2]
      refine eX1_bit (by omega) (fun v7 e7 v8 e8 => eX1_bit (by omega) ?_)
      have e7 : v7 = nt fr x := e7
      rw [e7] at e8 ⊢
      rw [e8]
      have geq : ∀ y : Int, 0 ≤ y → y < w → (nt fr y * (w / 2) + f y / 2 = nt fr x * (w / 2) + f x / 2 ↔ nt fr y = nt fr x ∧ f y / 2 = f x / 2) := fun y y0 y1 => by
        have hy := hf y y0 y1
        rcases nt_b fr y with q | q <;> rcases nb with q2 | q2 <;> rw [q, q2] <;> omega
      have bit := sn_bit (f := fun y => nt fr y * (w / 2) + f y / 2) (w := 8) (v := nt fr x * (w / 2) + f x / 2) (by decide) (gb x (by omega)).1 (gb x (by omega)).2 x (fun y hy => gb y (by omega))
      have b2 := bt_01 (sn (fun y => nt fr y * (w / 2) + f y / 2) x) (nt fr x * (w / 2) + f x / 2)
      rw [show zand (zshr (sn (fun y => nt fr y * (w / 2) + f y / 2) x) (nt fr x * (w / 2) + f x / 2)) 1 = bt (sn (fun y => nt fr y * (w / 2) + f y / 2) x) (nt fr x * (w / 2) + f x / 2) from rfl]
      have gx := gb x (by omega)
      have nm : 0 ≤ nt fr x * (w / 2) ∧ nt fr x * (w / 2) ≤ 4 := by rcases nb with q | q <;> rw [q] <;> omega
      simp (disch := omega) only [wr_of]
      refine ⟨fun z v12 e12 v13 e13 => ⟨by omega, by omega, fun μ16 e16 => ?_⟩, fun z => h0 (fun hh => ?_) ν hfr⟩
      · have hl : v13 = lr fr f (x + 1) := by
          rw [e13]
          simp only [lr]
          rw [zxor_b nb (by omega)]
          by_cases c : f x % 2 = nt fr x
          · rw [if_pos c.symm, if_pos c]
            have z0 := zshl_0 ⟨(f x / 2).toNat, by omega⟩
            rw [fv (by omega) (by omega)] at z0
            rw [z0, zor_zero, wr_of (by omega) (by omega)]
          · rw [if_neg (fun q => c q.symm), if_neg c]
        have V : ∀ a j, μ16 a j = if a = 21 + k ∧ j = nt fr x * (w / 2) + x / 2 then f x / 2 else ν a j := fun a j => by
          rw [e16, show (22 : Int) + (k - 1) = 21 + k by omega]; rfl
        rw [hl, e12]
        refine ih (x + 1) μ16 (by omega) (fun x' x2 a b c => ?_) (fun y y0 y1 => ?_) (fun a j q => ?_)
        · by_cases d : x2 = x
          · rw [d] at b ⊢
            intro q
            have := bit.2 ⟨x'.toNat, by omega, by
              show nt fr ((x'.toNat : Nat) : Int) * (w / 2) + f ((x'.toNat : Nat) : Int) / 2 = _
              rw [Int.toNat_of_nonneg a]
              exact (geq x' a (by omega)).2 q⟩
            exact z this
          · exact hd x' x2 a b (by omega)
        · rw [V]
          by_cases d : y = x
          · rw [if_pos ⟨rfl, by rw [d]⟩, d]
          · by_cases e : nt fr y * (w / 2) + y / 2 = nt fr x * (w / 2) + x / 2
            · exfalso
              have e1 : nt fr y = nt fr x ∧ y / 2 = x / 2 := by
                rcases nt_b fr y with q | q <;> rcases nb with q2 | q2 <;> rw [q, q2] at e ⊢ <;> omega
              have a1 := nt_i (fr := fr) (x := y) y0 (by omega)
              have a2 := nt_i (fr := fr) (x := x) (by omega) (by omega)
              rw [e1.1, e1.2, ← a2] at a1
              exact d a1
            · rw [if_neg (fun q => e q.2)]
              exact hi y y0 (by omega)
        · rw [V, if_neg (fun w => q w.1)]
          exact hfr a j q
      · obtain ⟨y, y1, y2⟩ := bit.1 z
        exact hh y x (by omega) (by omega) (by omega) ((geq y (by omega) (by omega)).1 y2)
  exact key w 0 μ (by omega) (fun x' x2 a b c => by omega) (fun y y0 y1 => by omega) (fun _ _ _ => rfl)
end T41
