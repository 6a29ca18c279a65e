section T42
variable {G : zG} {n : Nat} {μ ν : zM}
theorem mark_0 : ∀ m : Fin 256, ∀ v : Fin 8, (zand (m.val : Int) (zshl 1 (v.val : Int)) = 0 ↔ bt (m.val : Int) (v.val : Int) = 0) ∧ 0 ≤ zand (m.val : Int) (zshl 1 (v.val : Int)) ∧ zand (m.val : Int) (zshl 1 (v.val : Int)) < 256 := by decide +kernel
theorem c8_halve (hn : 154 ≤ n) {of' to' from' fr : Int} {w : Nat} (hw : w = 4 ∨ w = 8) (hof : (of' = 133 ∨ of' = 135) ∧ (to' = 135 ∨ to' = 136) ∧ of' ≠ to') (hfrom : 0 ≤ from' ∧ from' + w ≤ 8) {f : Int → Int} (hf : ∀ x : Int, 0 ≤ x → x < w → μ of' (from' + x) = f x ∧ 0 ≤ f x ∧ f x < w) {K : Int → zM → Prop}
    (h1 : Hok fr f w → ∀ ν : zM, (∀ v i : Int, (v = 0 ∨ v = 1) → 0 ≤ i → i < w / 2 → ν to' (v * (w / 2) + i) = ing fr f v i) → ν 127 17 = lr fr f w → (∀ a j, a ≠ to' → ¬ (a = 127 ∧ j = 17) → ν a j = μ a j) → K 1 ν)
    (h0 : ¬ Hok fr f w → ∀ ν : zM, (∀ a j, a ≠ to' → ¬ (a = 127 ∧ j = 17) → ν a j = μ a j) → K 0 ν) : mX8_halve G n of' from' w fr to' 0 μ K := by
  have ew : zdiv (w : Int) 2 = (w / 2 : Int) := by rcases hw with rfl | rfl <;> decide +kernel
  have zo : zk of' = 0 ∧ (zn of' : Int) = 8 := by rcases hof.1 with q | q <;> rw [q] <;> decide
  have zt : zk to' = 0 ∧ (zn to' : Int) = 8 := by rcases hof.2.1 with q | q <;> rw [q] <;> decide
  refine eX8_halve hn (fun v1 e1 μ2 e2 => ?_)
  rw [e1, ew]
  have gb : ∀ x : Nat, x < w → 0 ≤ 2 * (f x / 2) + nt fr x ∧ 2 * (f x / 2) + nt fr x < 8 := fun x hx => by
    have := hf x (by omega) (by omega)
    rcases nt_b fr x with q | q <;> rw [q] <;> omega
  have key : ∀ (g x : Nat) (ν : zM), x + g = w → (∀ x' x2 : Int, 0 ≤ x' → x' < x2 → x2 < x → ¬ (nt fr x' = nt fr x2 ∧ f x' / 2 = f x2 / 2)) → (∀ y : Int, 0 ≤ y → y < x → ν to' (nt fr y * (w / 2) + y / 2) = f y / 2) → ν 127 17 = lr fr f x → (∀ a j, a ≠ to' → ¬ (a = 127 ∧ j = 17) → ν a j = μ a j) → pX8_halve G n K 16 [some (Rv G 127), some (Rv G of'), some (Iv from'), some (Iv w), some (Iv fr), some (Rv G to'), some (Iv 0), some (Iv (w / 2)), some (Iv (sn (fun y => 2 * (f y / 2) + nt fr y) x)), some (Iv x), none, none, none] [] ν := by
    intro g
    induction g with
    | zero =>
      intro x ν ex hd hi hl hfr
      have : x = w := by omega
      subst this
      refine bX8_halve_16 hn ?_
      simp (disch := omega) only [wr_of]
      refine ⟨fun _ => h1 hd ν (fun v i hv i0 i1 => ?_) hl hfr, fun z => by omega⟩
      have xb : zxor v (zand (zshr fr i) 1) = 0 ∨ zxor v (zand (zshr fr i) 1) = 1 := by
        rw [zxor_b hv (zand_1 _)]; split <;> simp
      have y0 : 0 ≤ 2 * i + zxor v (zand (zshr fr i) 1) := by omega
      have y8 : 2 * i + zxor v (zand (zshr fr i) 1) < 8 := by omega
      have ey : (2 * i + zxor v (zand (zshr fr i) 1)) / 2 = i := by omega
      have en : nt fr (2 * i + zxor v (zand (zshr fr i) 1)) = v := by
        unfold nt
        rw [ey, (x8 y0 y8).1, zxor_b (by omega) (zand_1 _)]
        have e3 := zxor_b hv (zand_1 (zshr fr i))
        have b := zand_1 (zshr fr i)
        split at e3 <;> split <;> omega
      have := hi (2 * i + zxor v (zand (zshr fr i) 1)) y0 (by omega)
      rw [en, ey] at this
      exact this
    | succ g ih =>
      intro x ν ex hd hi hl hfr
      have fx := hf x (by omega) (by omega)
      have sr := sn_R (f := fun y => 2 * (f y / 2) + nt fr y) (w := 8) (by decide) x (fun y hy => gb y (by omega))
      have lrr := lr_R (fr := fr) (f := f) x (by omega) (fun y hy => by have := hf y (by omega) (by omega); omega)
      have fy : ν of' (from' + x) = f x := by rw [hfr _ _ hof.2.2 (by omega)]; exact fx.1
      have yb := y8_bits ⟨(f x).toNat, by omega⟩
      rw [fv fx.2.1 (by omega)] at yb
      have nb := nt_b fr x
      have nm : 0 ≤ w / 2 * nt fr x ∧ w / 2 * nt fr x ≤ 4 := by rcases nb with q | q <;> rw [q] <;> omega
      have geq : ∀ y : Int, 0 ≤ y → y < w → (2 * (f y / 2) + nt fr y = 2 * (f x / 2) + nt fr x ↔ nt fr y = nt fr x ∧ f y / 2 = f x / 2) := fun y y0 y1 => by
        rcases nt_b fr y with q | q <;> rcases nb with q2 | q2 <;> rw [q, q2] <;> omega
      have gx := gb x (by omega)
      have mk := mark_0 ⟨(sn (fun y => 2 * (f y / 2) + nt fr y) x).toNat, by omega⟩ ⟨(2 * (f x / 2) + nt fr x).toNat, by omega⟩
      rw [fv sr.1 sr.2, fv gx.1 gx.2] at mk
      refine bX8_halve_16 hn ?_
      unfold zin
      rw [zdiv_of (a := (x : Int)) (b := 2) (by omega) (by omega) (by omega) (by omega), zo.2, zt.2]
      simp (disch := omega) only [wr_of]
      refine ⟨fun z => by omega, fun _ v2 e2 => ?_⟩
      rw [zxor_comm] at e2
      have e2 : v2 = nt fr x := e2
      rw [e2, Int.zero_add]
      refine ⟨⟨⟨by omega, by omega, zo.1⟩, by omega⟩, fun v4 e4 v5 e5 => ?_⟩
      rw [fy] at e4
      rw [e4, zdiv_of (by omega) (by omega) (by omega) (by omega)] at e5
      rw [e4, e5, yb.2, zdiv_of (a := f x) (b := 2) (by omega) (by omega) (by omega) (by omega)]
      simp (disch := omega) only [wr_of]
      have step : ∀ μ11 : zM, bt (sn (fun y => 2 * (f y / 2) + nt fr y) x) (2 * (f x / 2) + nt fr x) = 0 → (∀ a j, μ11 a j = if a = 127 ∧ j = 17 then lr fr f (x + 1) else if a = to' ∧ j = w / 2 * nt fr x + x / 2 then f x / 2 else ν a j) → pX8_halve G n K 16 [some (Rv G 127), some (Rv G of'), some (Iv from'), some (Iv w), some (Iv fr), some (Rv G to'), some (Iv 0), some (Iv (w / 2)), some (Iv (sn (fun y => 2 * (f y / 2) + nt fr y) (x + 1))), some (Iv ((x : Int) + 1)), none, none, none] [] μ11 := by
        intro μ11 z V
        have bit := sn_bit (f := fun y => 2 * (f y / 2) + nt fr y) (w := 8) (v := 2 * (f x / 2) + nt fr x) (by decide) gx.1 gx.2 x (fun y hy => gb y (by omega))
        refine ih (x + 1) μ11 (by omega) (fun x' x2 a b c => ?_) (fun y y0 y1 => ?_) ?_ (fun a j q q2 => ?_)
        · by_cases d : x2 = x
          · rw [d] at b ⊢
            intro q
            have := bit.2 ⟨x'.toNat, by omega, by
              show 2 * (f ((x'.toNat : Nat) : Int) / 2) + nt fr ((x'.toNat : Nat) : Int) = _
              rw [Int.toNat_of_nonneg a]
              exact (geq x' a (by omega)).2 q⟩
            rw [z] at this
            exact absurd this (by decide)
          · exact hd x' x2 a b (by omega)
        · clear bit
          rw [V, if_neg (by omega)]
          by_cases d : y = x
          · rw [if_pos ⟨rfl, by rw [d, Int.mul_comm]⟩, d]
          · by_cases e : nt fr y * (w / 2) + y / 2 = w / 2 * nt fr x + x / 2
            · exfalso
              have e1 : nt fr y = nt fr x ∧ y / 2 = x / 2 := by
                rcases nt_b fr y with q | q <;> rcases nb with q2 | q2 <;> rw [q, q2] at e ⊢ <;> omega
              have a1 := nt_i (fr := fr) (x := y) y0 (by omega)
              have a2 := nt_i (fr := fr) (x := x) (by omega) (by omega)
              rw [e1.1, e1.2, ← a2] at a1
              exact d a1
            · rw [if_neg (fun q => e q.2)]
              exact hi y y0 (by omega)
        · rw [V, if_pos ⟨rfl, rfl⟩]
        · rw [V, if_neg q2, if_neg (fun w => q w.1)]
          exact hfr a j q q2
      refine ⟨fun z v7 e7 => ⟨⟨⟨by omega, by omega, zt.1⟩, by omega⟩, fun μ9 e9 => ?_⟩, fun z => ?_⟩
      · have zb := mk.1.1 z
        have e7 : v7 = sn (fun y => 2 * (f y / 2) + nt fr y) (x + 1) := e7
        have l9 : μ9 127 17 = lr fr f x := by rw [e9, zu_na (by omega)]; exact hl
        rw [l9, e7]
        refine ⟨fun q μ11 e11 => step μ11 zb (fun a j => ?_), fun q μ12 e12 => step μ12 zb (fun a j => ?_)⟩
        · rw [e11, zor_zero, wr_of (by omega) (by omega)]
          unfold zu
          by_cases c : a = 127 ∧ j = 17
          · rw [if_pos c, if_pos c]
            show lr fr f x = if f x % 2 = nt fr x then lr fr f x else _
            rw [if_pos q]
          · rw [if_neg c, if_neg c, e9]; rfl
        · rw [e12]
          unfold zu
          by_cases c : a = 127 ∧ j = 17
          · rw [if_pos c, if_pos c]
            show _ = if f x % 2 = nt fr x then lr fr f x else _
            rw [if_neg q]
          · rw [if_neg c, if_neg c, e9]; rfl
      · have bit := sn_bit (f := fun y => 2 * (f y / 2) + nt fr y) (w := 8) (v := 2 * (f x / 2) + nt fr x) (by decide) gx.1 gx.2 x (fun y hy => gb y (by omega))
        have b1 : bt (sn (fun y => 2 * (f y / 2) + nt fr y) x) (2 * (f x / 2) + nt fr x) = 1 := by
          rcases bt_01 (sn (fun y => 2 * (f y / 2) + nt fr y) x) (2 * (f x / 2) + nt fr x) with q | q
          · exact absurd (mk.1.2 q) z
          · exact q
        refine h0 (fun hh => ?_) ν hfr
        obtain ⟨y, y1, y2⟩ := bit.1 b1
        exact hh y x (by omega) (by omega) (by omega) ((geq y (by omega) (by omega)).1 y2)
  exact key w 0 μ2 (by omega) (fun x' x2 a b c => by omega) (fun y y0 y1 => by omega) (by rw [e2, zu_same]; rfl) (fun a j _ q => by rw [e2, zu_ne q])
end T42
