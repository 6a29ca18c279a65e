section T35
variable {G : zG} {n : Nat} {μ ν : zM}
/-- how many of the n lowest bits are 1 -/
def pcn (X : Nat) : Nat → Nat
  | 0 => 0
  | n + 1 => X % 2 + pcn (X / 2) n
theorem pcn_le (X n : Nat) : pcn X n ≤ n := by
  induction n generalizing X with
  | zero => exact Nat.le_refl 0
  | succ n ih => have := ih (X / 2); simp only [pcn]; omega
theorem pcn_add (X b : Nat) : ∀ k, pcn X (k + b) = pcn X k + pcn (X / 2 ^ k) b := by
  intro k
  induction k generalizing X with
  | zero => simp [pcn]
  | succ k ih =>
    rw [show k + 1 + b = (k + b) + 1 by omega]
    simp only [pcn]
    rw [ih, Nat.div_div_eq_div_mul, Nat.pow_succ, Nat.mul_comm 2]
    omega
def fld (k : Nat) : Nat → Nat → Nat
  | 0, _ => 0
  | n + 1, X => pcn X k + 2 ^ k * fld k n (X / 2 ^ k)
theorem and_split (k r s Y Z : Nat) (hr : r < 2 ^ k) (hs : s < 2 ^ k) : (r + 2 ^ k * Y) &&& (s + 2 ^ k * Z) = (r &&& s) + 2 ^ k * (Y &&& Z) := by
  have e := Nat.mod_add_div ((r + 2 ^ k * Y) &&& (s + 2 ^ k * Z)) (2 ^ k)
  rw [Nat.and_mod_two_pow, Nat.and_div_two_pow, Nat.add_mul_mod_self_left, Nat.add_mul_mod_self_left, Nat.mod_eq_of_lt hr, Nat.mod_eq_of_lt hs, Nat.add_mul_div_left _ _ (Nat.two_pow_pos k), Nat.add_mul_div_left _ _ (Nat.two_pow_pos k), Nat.div_eq_of_lt hr, Nat.div_eq_of_lt hs, Nat.zero_add, Nat.zero_add] at e
  exact e.symm
def mk5 : Nat → Nat
  | 0 => 0
  | n + 1 => 1 + 2 ^ 2 * mk5 n
def mk3 : Nat → Nat
  | 0 => 0
  | n + 1 => 3 + 2 ^ 4 * mk3 n
def mkf : Nat → Nat
  | 0 => 0
  | n + 1 => 15 + 2 ^ 8 * mkf n
theorem and_small : ∀ r : Fin 16, (r.val &&& 1 = r.val % 2) ∧ (r.val &&& 3 = r.val % 4) := by decide
theorem and_15 : ∀ r : Fin 256, r.val &&& 15 = r.val % 16 := by decide +kernel
theorem st1 : ∀ (n X : Nat), X < 2 ^ (2 * n) → X - (X / 2 &&& mk5 n) = fld 2 n X ∧ (X / 2 &&& mk5 n) ≤ X := by
  intro n
  induction n with
  | zero => intro X h; simp only [Nat.mul_zero, Nat.pow_zero] at h; simp [mk5, fld]; omega
  | succ n ih =>
    intro X h
    have h4 : X / 4 < 2 ^ (2 * n) := by
      rw [show 2 * (n + 1) = 2 * n + 2 by omega, Nat.pow_add] at h
      exact Nat.div_lt_of_lt_mul (by omega)
    obtain ⟨i1, i2⟩ := ih (X / 4) h4
    have e : X / 2 = (X / 2 % 4) + 2 ^ 2 * (X / 4 / 2) := by omega
    have s := and_split 2 (X / 2 % 4) 1 (X / 4 / 2) (mk5 n) (by omega) (by decide)
    rw [← e] at s
    have a := (and_small ⟨X / 2 % 4, by omega⟩).1
    simp only at a
    simp only [mk5, fld, pcn]
    rw [s, a]
    rw [show (2 : Nat) ^ 2 = 4 from rfl] at *
    rw [← i1]
    omega
theorem st2 : ∀ (n X : Nat), (fld 2 (2 * n) X &&& mk3 n) + (fld 2 (2 * n) X / 4 &&& mk3 n) = fld 4 n X := by
  intro n
  induction n with
  | zero => intro X; simp [mk3, fld]
  | succ n ih =>
    intro X
    have ih := ih (X / 16)
    have p1 := pcn_le X 2
    have p2 := pcn_le (X / 4) 2
    have e : fld 2 (2 * (n + 1)) X = (pcn X 2 + 4 * pcn (X / 4) 2) + 2 ^ 4 * fld 2 (2 * n) (X / 16) := by
      show pcn X 2 + 2 ^ 2 * (pcn (X / 2 ^ 2) 2 + 2 ^ 2 * fld 2 (2 * n) (X / 2 ^ 2 / 2 ^ 2)) = _
      rw [Nat.div_div_eq_div_mul]
      simp only [Nat.reducePow, Nat.reduceMul]
      omega
    have pa := pcn_add X 2 2
    rw [e]
    generalize hV : fld 2 (2 * n) (X / 16) = V at *
    have s := and_split 4 (pcn X 2 + 4 * pcn (X / 4) 2) 3 V (mk3 n) (by omega) (by decide)
    have e2 : (pcn X 2 + 4 * pcn (X / 4) 2 + 2 ^ 4 * V) / 4 = (pcn (X / 4) 2 + 4 * (V % 4)) + 2 ^ 4 * (V / 4) := by omega
    have s2 := and_split 4 (pcn (X / 4) 2 + 4 * (V % 4)) 3 (V / 4) (mk3 n) (by omega) (by decide)
    rw [e2]
    show ((pcn X 2 + 4 * pcn (X / 4) 2 + 2 ^ 4 * V) &&& (3 + 2 ^ 4 * mk3 n)) + ((pcn (X / 4) 2 + 4 * (V % 4) + 2 ^ 4 * (V / 4)) &&& (3 + 2 ^ 4 * mk3 n)) = pcn X 4 + 2 ^ 4 * fld 4 n (X / 2 ^ 4)
    rw [s, s2, (and_small ⟨pcn X 2 + 4 * pcn (X / 4) 2, by omega⟩).2, (and_small ⟨pcn (X / 4) 2 + 4 * (V % 4), by omega⟩).2, show (2 : Nat) ^ 4 = 16 from rfl, ← ih, pa]
    simp only [Nat.reducePow]
    omega
theorem fld4_mod (n X : Nat) : fld 4 n X % 16 ≤ 4 := by
  cases n with
  | zero => simp [fld]
  | succ n =>
    have := pcn_le X 4
    show (pcn X 4 + 2 ^ 4 * fld 4 n (X / 2 ^ 4)) % 16 ≤ 4
    omega
theorem st3 : ∀ (n X : Nat), (fld 4 (2 * n) X + fld 4 (2 * n) X / 16) &&& mkf n = fld 8 n X := by
  intro n
  induction n with
  | zero => intro X; simp [mkf, fld]
  | succ n ih =>
    intro X
    have ih := ih (X / 256)
    have p1 := pcn_le X 4
    have p2 := pcn_le (X / 16) 4
    have pm := fld4_mod (2 * n) (X / 256)
    have e : fld 4 (2 * (n + 1)) X = (pcn X 4 + 16 * pcn (X / 16) 4) + 2 ^ 8 * fld 4 (2 * n) (X / 256) := by
      show pcn X 4 + 2 ^ 4 * (pcn (X / 2 ^ 4) 4 + 2 ^ 4 * fld 4 (2 * n) (X / 2 ^ 4 / 2 ^ 4)) = _
      rw [Nat.div_div_eq_div_mul]
      simp only [Nat.reducePow, Nat.reduceMul]
      omega
    have pa := pcn_add X 4 4
    rw [e]
    generalize hV : fld 4 (2 * n) (X / 256) = V at *
    have e2 : pcn X 4 + 16 * pcn (X / 16) 4 + 2 ^ 8 * V + (pcn X 4 + 16 * pcn (X / 16) 4 + 2 ^ 8 * V) / 16 = (pcn X 4 + pcn (X / 16) 4 + 16 * (pcn (X / 16) 4 + V % 16)) + 2 ^ 8 * (V + V / 16) := by omega
    have s := and_split 8 (pcn X 4 + pcn (X / 16) 4 + 16 * (pcn (X / 16) 4 + V % 16)) 15 (V + V / 16) (mkf n) (by omega) (by decide)
    rw [e2]
    show _ &&& (15 + 2 ^ 8 * mkf n) = pcn X 8 + 2 ^ 8 * fld 8 n (X / 2 ^ 8)
    rw [s, and_15 ⟨pcn X 4 + pcn (X / 16) 4 + 16 * (pcn (X / 16) 4 + V % 16), by omega⟩, show (2 : Nat) ^ 8 = 256 from rfl, ← ih, pa]
    simp only [Nat.reducePow]
    omega
theorem st4 (X : Nat) : fld 8 8 X < 2 ^ 64 ∧ (fld 8 8 X + fld 8 8 X / 256 + (fld 8 8 X + fld 8 8 X / 256) / 65536 + (fld 8 8 X + fld 8 8 X / 256 + (fld 8 8 X + fld 8 8 X / 256) / 65536) / 4294967296) % 128 = pcn X 64 ∧ fld 8 8 X + fld 8 8 X / 256 + (fld 8 8 X + fld 8 8 X / 256) / 65536 + (fld 8 8 X + fld 8 8 X / 256 + (fld 8 8 X + fld 8 8 X / 256) / 65536) / 4294967296 < 2 ^ 64 := by
  have e : pcn X 64 = pcn X 8 + (pcn (X / 2 ^ 8) 8 + (pcn (X / 2 ^ 8 / 2 ^ 8) 8 + (pcn (X / 2 ^ 8 / 2 ^ 8 / 2 ^ 8) 8 + (pcn (X / 2 ^ 8 / 2 ^ 8 / 2 ^ 8 / 2 ^ 8) 8 + (pcn (X / 2 ^ 8 / 2 ^ 8 / 2 ^ 8 / 2 ^ 8 / 2 ^ 8) 8 + (pcn (X / 2 ^ 8 / 2 ^ 8 / 2 ^ 8 / 2 ^ 8 / 2 ^ 8 / 2 ^ 8) 8 + pcn (X / 2 ^ 8 / 2 ^ 8 / 2 ^ 8 / 2 ^ 8 / 2 ^ 8 / 2 ^ 8 / 2 ^ 8) 8)))))) := by
    rw [← pcn_add _ 8 8, ← pcn_add _ 16 8, ← pcn_add _ 24 8, ← pcn_add _ 32 8, ← pcn_add _ 40 8, ← pcn_add _ 48 8, ← pcn_add _ 56 8]
  rw [e]
  simp only [fld]
  have h0 := pcn_le X 8
  have h1 := pcn_le (X / 2 ^ 8) 8
  have h2 := pcn_le (X / 2 ^ 8 / 2 ^ 8) 8
  have h3 := pcn_le (X / 2 ^ 8 / 2 ^ 8 / 2 ^ 8) 8
  have h4 := pcn_le (X / 2 ^ 8 / 2 ^ 8 / 2 ^ 8 / 2 ^ 8) 8
  have h5 := pcn_le (X / 2 ^ 8 / 2 ^ 8 / 2 ^ 8 / 2 ^ 8 / 2 ^ 8) 8
  have h6 := pcn_le (X / 2 ^ 8 / 2 ^ 8 / 2 ^ 8 / 2 ^ 8 / 2 ^ 8 / 2 ^ 8) 8
  have h7 := pcn_le (X / 2 ^ 8 / 2 ^ 8 / 2 ^ 8 / 2 ^ 8 / 2 ^ 8 / 2 ^ 8 / 2 ^ 8) 8
  generalize pcn X 8 = a0 at *
  generalize pcn (X / 2 ^ 8) 8 = a1 at *
  generalize pcn (X / 2 ^ 8 / 2 ^ 8) 8 = a2 at *
  generalize pcn (X / 2 ^ 8 / 2 ^ 8 / 2 ^ 8) 8 = a3 at *
  generalize pcn (X / 2 ^ 8 / 2 ^ 8 / 2 ^ 8 / 2 ^ 8) 8 = a4 at *
  generalize pcn (X / 2 ^ 8 / 2 ^ 8 / 2 ^ 8 / 2 ^ 8 / 2 ^ 8) 8 = a5 at *
  generalize pcn (X / 2 ^ 8 / 2 ^ 8 / 2 ^ 8 / 2 ^ 8 / 2 ^ 8 / 2 ^ 8) 8 = a6 at *
  generalize pcn (X / 2 ^ 8 / 2 ^ 8 / 2 ^ 8 / 2 ^ 8 / 2 ^ 8 / 2 ^ 8 / 2 ^ 8) 8 = a7 at *
  simp only [Nat.reducePow, Nat.mul_zero, Nat.add_zero]
  have dv : ∀ (E r k Q : Nat), E = r + k * Q → r < k → E / k = Q := fun E r k Q e hr => by
    rw [e, Nat.add_mul_div_left _ _ (by omega), Nat.div_eq_of_lt hr, Nat.zero_add]
  have d1 : (a0 + 256 * (a1 + 256 * (a2 + 256 * (a3 + 256 * (a4 + 256 * (a5 + 256 * (a6 + 256 * a7))))))) / 256 = a1 + 256 * (a2 + 256 * (a3 + 256 * (a4 + 256 * (a5 + 256 * (a6 + 256 * a7))))) := dv _ a0 256 _ rfl (by omega)
  rw [d1]
  have d2 : (a0 + 256 * (a1 + 256 * (a2 + 256 * (a3 + 256 * (a4 + 256 * (a5 + 256 * (a6 + 256 * a7)))))) + (a1 + 256 * (a2 + 256 * (a3 + 256 * (a4 + 256 * (a5 + 256 * (a6 + 256 * a7))))))) / 65536 = (a2 + a3) + 256 * (a3 + a4) + 65536 * (a4 + a5) + 16777216 * (a5 + a6) + 4294967296 * (a6 + a7) + 1099511627776 * a7 := dv _ (a0 + a1 + 256 * (a1 + a2)) 65536 _ (by clear h0 h1 h2 h3 h4 h5 h6 h7 d1; omega) (by clear h3 h4 h5 h6 h7 d1; omega)
  rw [d2]
  have d3 : (a0 + 256 * (a1 + 256 * (a2 + 256 * (a3 + 256 * (a4 + 256 * (a5 + 256 * (a6 + 256 * a7)))))) + (a1 + 256 * (a2 + 256 * (a3 + 256 * (a4 + 256 * (a5 + 256 * (a6 + 256 * a7)))))) + ((a2 + a3) + 256 * (a3 + a4) + 65536 * (a4 + a5) + 16777216 * (a5 + a6) + 4294967296 * (a6 + a7) + 1099511627776 * a7)) / 4294967296 = (a4 + a5 + a6 + a7) + 256 * (a5 + a6 + a7) + 65536 * (a6 + a7) + 16777216 * a7 := dv _ ((a0 + a1 + a2 + a3) + 256 * (a1 + a2 + a3 + a4) + 65536 * (a2 + a3 + a4 + a5) + 16777216 * (a3 + a4 + a5 + a6)) 4294967296 _ (by clear h0 h1 h2 h3 h4 h5 h6 h7 d1 d2; omega) (by clear d1 d2; omega)
  rw [d3]
  refine ⟨by clear d1 d2 d3; omega, ?_, by clear d1 d2 d3; omega⟩
  have md : ∀ (E r Q : Nat), E = r + 128 * Q → r < 128 → E % 128 = r := fun E r Q e hr => by
    rw [e, Nat.add_mul_mod_self_left, Nat.mod_eq_of_lt hr]
  refine md _ _ (2 * (a1 + a2 + a3 + a4 + a5 + a6 + a7) + 512 * (a2 + a3 + a4 + a5 + a6 + a7) + 131072 * (a3 + a4 + a5 + a6 + a7) + 33554432 * (a4 + a5 + a6 + a7) + 8589934592 * (a5 + a6 + a7) + 2199023255552 * (a6 + a7) + 562949953421312 * a7) ?_ ?_
  · clear h0 h1 h2 h3 h4 h5 h6 h7 d1 d2 d3
    omega
  · clear d1 d2 d3
    omega
end T35
