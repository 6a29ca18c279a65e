section T87
variable {G : zG} {n : Nat} {μ ν κ : zM}
def ib (x : Int) (r : Nat) : Bool := (BitVec.ofInt 32 x).getLsbD r
theorem ofI32 (x : Int32) : BitVec.ofInt 32 x.toInt = x.toBitVec := by
  show BitVec.ofInt 32 x.toBitVec.toInt = x.toBitVec
  exact BitVec.ofInt_toInt
theorem ib_or (a b : Int) (r : Nat) : ib (zor a b) r = (ib a r || ib b r) := by
  unfold ib zor
  rw [ofI32, Int32.toBitVec_or, BitVec.getLsbD_or, Int32.toBitVec_ofInt, Int32.toBitVec_ofInt]
theorem ib_sl : ∀ (y r : Fin 32), ib (zshl 1 (y.1 : Int)) r.1 = decide (r.1 = y.1) := by decide +kernel
theorem ib_0 (r : Nat) : ib 0 r = false := by
  unfold ib
  rw [show BitVec.ofInt 32 0 = 0#32 by decide, BitVec.getLsbD_zero]
theorem sh_k : ∀ y : Fin 32, ((Int32.ofInt (y.1 : Int) &&& 31).toBitVec.smod 32).toNat = y.1 := by decide +kernel
theorem bit1 (b : BitVec 32) : (b &&& 1#32) = if b.getLsbD 0 then 1#32 else 0#32 := by
  apply BitVec.eq_of_getLsbD_eq
  intro i hi
  rw [BitVec.getLsbD_and]
  by_cases e : i = 0
  · subst e
    cases b.getLsbD 0 <;> rfl
  · have : (1#32).getLsbD i = false := by
      rw [BitVec.getLsbD_one]; simp [e]
    rw [this, Bool.and_false]
    split
    · exact this.symm
    · rw [BitVec.getLsbD_zero]
theorem ib_f (w : Int) (y : Fin 32) : zand (zshr w (y.1 : Int)) 1 = if ib w y.1 then 1 else 0 := by
  have e : (Int32.ofInt w >>> (Int32.ofInt (y.1 : Int) &&& 31)).toBitVec.getLsbD 0 = ib w y.1 := by
    rw [Int32.toBitVec_shiftRight, BitVec.sshiftRight_eq', sh_k y, BitVec.getLsbD_sshiftRight]
    rw [Int32.toBitVec_ofInt]
    have := y.2
    simp
    unfold ib
    rw [BitVec.getLsbD_eq_getElem]
  have e2 : (Int32.ofInt (zshr w (y.1 : Int)) &&& Int32.ofInt 1).toBitVec = if ib w y.1 then 1#32 else 0#32 := by
    unfold zshr
    rw [Int32.toBitVec_and, Int32.ofInt_toInt, show (Int32.ofInt 1).toBitVec = 1#32 by decide, bit1, e]
  unfold zand
  show (Int32.ofInt (zshr w (y.1 : Int)) &&& Int32.ofInt 1).toBitVec.toInt = _
  rw [e2]
  split <;> decide
theorem ib_t {w y : Int} (y0 : 0 ≤ y) (y1 : y < 32) : zand (zshr w y) 1 = if ib w y.toNat then 1 else 0 := by
  have := ib_f w ⟨y.toNat, by omega⟩
  simp only [Int.toNat_of_nonneg y0] at this
  exact this
theorem ib_up {w y z : Int} (y0 : 0 ≤ y) (y1 : y < 32) (z0 : 0 ≤ z) (z1 : z < 32) : ib (zor w (zshl 1 y)) z.toNat = if z = y then true else ib w z.toNat := by
  have := ib_sl ⟨y.toNat, by omega⟩ ⟨z.toNat, by omega⟩
  simp only [Int.toNat_of_nonneg y0] at this
  rw [ib_or, this]
  by_cases q : z = y
  · rw [if_pos q, decide_eq_true (by omega), Bool.or_true]
  · rw [if_neg q, decide_eq_false (by omega), Bool.or_false]
theorem need_f : ∀ (m g : Fin 32), (wr (zand (m.1 : Int) (zxor (g.1 : Int) (-1))) = 0) ↔ ∀ o : Fin 5, Um (m.1 : Int) (o.1 : Int) = true → Um (g.1 : Int) (o.1 : Int) = true := by decide +kernel
theorem need_t {m g : Int} (m0 : 0 ≤ m) (m1 : m < 32) (g0 : 0 ≤ g) (g1 : g < 32) : wr (zand m (zxor g (-1))) = 0 ↔ ∀ o : Int, 0 ≤ o → o < 5 → Um m o = true → Um g o = true := by
  have := need_f ⟨m.toNat, by omega⟩ ⟨g.toNat, by omega⟩
  simp only [Int.toNat_of_nonneg m0, Int.toNat_of_nonneg g0] at this
  rw [this]
  constructor
  · intro h o o0 o1
    have t := h ⟨o.toNat, by omega⟩
    simp only [Int.toNat_of_nonneg o0] at t
    exact t
  · intro h o
    exact h o.1 (by omega) (by omega)
theorem um_0 {o : Int} (o0 : 0 ≤ o) (o1 : o < 5) : Um 0 o = false := by
  have um0 : ∀ o : Fin 5, Um 0 (o.1 : Int) = false := by decide +kernel
  have := um0 ⟨o.toNat, by omega⟩
  simp only [Int.toNat_of_nonneg o0] at this
  exact this
/-- inlet i can be given o -/
def cang (P : Nat) (T : Int → Int → Int) (s i : Int) (U : Int → Bool) (o : Int) : Prop := 0 < T i o ∧ U o = false ∧ gon P T s ((P : Int) - (i + 1)).toNat (i + 1) (upU U o)
/-- what goes on, as the class keeps it, from inlet k on -/
def GB (P : Nat) (T : Int → Int → Int) (s k : Int) (κ : zM) : Prop := ∀ i m, k ≤ i → i ≤ P → 0 ≤ m → m < zshl 1 P → (ib (κ 98 i) m.toNat = true ↔ gon P T s ((P : Int) - i).toNat i (Um m))
theorem c3_canGive (hn : 154 ≤ n) {P : Nat} {T : Int → Int → Int} {s : Int} (hP5 : P ≤ 5) (hT : Tb T) (hm : ∀ i o : Int, 0 ≤ i → i < P → 0 ≤ o → o < P → κ (53 + i) o = T i o) {i o m : Int} (i0 : 0 ≤ i) (i1 : i < P) (o0 : 0 ≤ o) (o1 : o < P) (m0 : 0 ≤ m) (m1 : m < zshl 1 P) (gb : GB P T s (i + 1) κ) {K : Int → zM → Prop} (k1 : cang P T s i (Um m) o → K 1 κ) (k0 : ¬ cang P T s i (Um m) o → K 0 κ) : mX3_canGive G n i o m κ K := by
  have zz := zs_r (P := P) (by omega) (by omega)
  have orr := or_r (P := P) (by omega) (by omega) m0 m1 o0 o1
  have t := hT i o i0 (by omega) o0 (by omega)
  refine eX3_canGive (by omega) ?_
  rw [show (52 : Int) + 1 = 53 from rfl]
  simp (disch := omega) only [wr_of]
  rw [hm i o i0 i1 o0 o1]
  simp (disch := omega) only [wr_of]
  have e := ib_t (w := κ 98 (i + 1)) orr.1 (by omega)
  have b := gb (i + 1) (zor m (zshl 1 o)) (by omega) (by omega) orr.1 orr.2
  have c := gon_c (P := P) (T := T) (s := s) ((P : Int) - (i + 1)).toNat (i + 1) (Um (zor m (zshl 1 o))) (upU (Um m) o) (fun x x0 x1 => um_or m0 (by omega) o0 (by omega) x0 (by omega))
  have c2 := gon_c (P := P) (T := T) (s := s) ((P : Int) - (i + 1)).toNat (i + 1) (upU (Um m) o) (Um (zor m (zshl 1 o))) (fun x x0 x1 => (um_or m0 (by omega) o0 (by omega) x0 (by omega)).symm)
  refine ⟨by omega, by omega, fun z => k0 (fun w => by have := w.1; omega), fun z => ⟨fun z2 => k0 (fun w => ?_), fun z2 => ⟨by omega, fun z3 => k0 (fun w => z3 ?_), fun z3 => k1 ⟨by omega, decide_eq_false (fun w => w z2), ?_⟩⟩⟩⟩
  · have : Um m o = true := decide_eq_true z2
    have w2 := w.2.1
    rw [this] at w2; exact absurd w2 (by decide)
  · rw [e, if_pos (b.mpr (c2 w.2.2))]; first | rfl | decide
  · rw [e] at z3
    by_cases q : ib (κ 98 (i + 1)) (zor m (zshl 1 o)).toNat = true
    · exact c (b.mp q)
    · rw [if_neg q] at z3; exact absurd z3 (by decide)
theorem c3_canGiveAny (hn : 154 ≤ n) {P : Nat} {T : Int → Int → Int} {s : Int} (hP5 : P ≤ 5) (hP : κ 45 0 = P) (hT : Tb T) (hm : ∀ i o : Int, 0 ≤ i → i < P → 0 ≤ o → o < P → κ (53 + i) o = T i o) {i m : Int} (i0 : 0 ≤ i) (i1 : i < P) (m0 : 0 ≤ m) (m1 : m < zshl 1 P) (gb : GB P T s (i + 1) κ) {K : Int → zM → Prop} (k1 : ∀ o : Int, 0 ≤ o → o < P → cang P T s i (Um m) o → K 1 κ) (k0 : (∀ o : Int, 0 ≤ o → o < P → ¬ cang P T s i (Um m) o) → K 0 κ) : mX3_canGiveAny G n i m κ K := by
  have loop : ∀ (g : Nat) (o : Int), 0 ≤ o → o + g = P → (∀ y : Int, 0 ≤ y → y < o → ¬ cang P T s i (Um m) y) → pX3_canGiveAny G n K 2 [some (Rv G 45), some (Iv i), some (Iv m), some (Iv o)] [] κ := by
    intro g
    induction g with
    | zero =>
      intro o o0 eo hy
      refine bX3_canGiveAny_2 (by omega) ?_
      rw [hP]
      simp (disch := omega) only [wr_of]
      exact ⟨fun _ => k0 (fun y a b => hy y a (by omega)), fun z => by omega⟩
    | succ g ih =>
      intro o o0 eo hy
      refine bX3_canGiveAny_2 (by omega) ?_
      rw [hP]
      simp (disch := omega) only [wr_of]
      refine ⟨fun z => by omega, fun _ => c3_canGive hn hP5 hT hm i0 i1 o0 (by omega) m0 m1 gb (fun q => ⟨fun z => absurd z (by decide), fun _ => k1 o o0 (by omega) q⟩) (fun q => ⟨fun _ => ih (o + 1) (by omega) (by omega) (fun y a b => ?_), fun z => absurd rfl z⟩)⟩
      by_cases e : y = o
      · rw [e]; exact q
      · exact hy y a (by omega)
  exact eX3_canGiveAny (by omega) (loop P 0 (by decide) (by omega) (fun y a b => by omega))
end T87
