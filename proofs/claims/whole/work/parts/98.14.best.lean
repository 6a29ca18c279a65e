section T71
variable {G : zG} {n : Nat} {μ ν κ : zM}
def upU (U : Int → Bool) (v : Int) : Int → Bool := fun o => if o = v then true else U o
def okU (P : Int) (T : Int → Int → Int) (d : Int) (U : Int → Bool) (v : Int) : Bool := decide (v = P ∨ (0 < T d v ∧ U v = false))
/-- the first best of v, v + 1, .. -/
def bw (ok : Int → Bool) (x : Int → Int) : Nat → Int → Int × Int
  | 0, _ => (-100000, 0)
  | w + 1, v => if ok v = true ∧ (bw ok x w (v + 1)).1 ≤ x v then (x v, v) else bw ok x w (v + 1)
/-- the best sum from d on, where U are given -/
def bv (P : Int) (T : Int → Int → Int) : Nat → Int → (Int → Bool) → Int
  | 0, _, _ => 0
  | g + 1, d, U => (bw (okU P T d U) (fun v => rvl P T d v + bv P T g (d + 1) (upU U v)) (P + 1).toNat 0).1
abbrev xv (P : Int) (T : Int → Int → Int) (g : Nat) (d : Int) (U : Int → Bool) : Int → Int := fun v => rvl P T d v + bv P T g (d + 1) (upU U v)
def gr (P : Int) (T : Int → Int → Int) : Nat → Int → (Int → Bool) → (Int → Int) → Int → Int
  | 0, _, _, c => c
  | g + 1, d, U, c => gr P T g (d + 1) (upU U (bw (okU P T d U) (xv P T g d U) (P + 1).toNat 0).2) (up c d (bw (okU P T d U) (xv P T g d U) (P + 1).toNat 0).2)
theorem bw_c {ok ok' : Int → Bool} {x x' : Int → Int} : ∀ (w : Nat) (v : Int), (∀ u, v ≤ u → u < v + w → ok u = ok' u ∧ x u = x' u) → bw ok x w v = bw ok' x' w v
  | 0, _, _ => rfl
  | w + 1, v, h => by
    have i := bw_c w (v + 1) (fun u a b => h u (by omega) (by omega))
    have e := h v (by omega) (by omega)
    simp only [bw]
    rw [i, e.1, e.2]
theorem bv_c {P : Int} {T : Int → Int → Int} (hp : 1 ≤ P) : ∀ (g : Nat) (d : Int) (U U' : Int → Bool), (∀ o, 0 ≤ o → o < P → U o = U' o) → bv P T g d U = bv P T g d U'
  | 0, _, _, _, _ => rfl
  | g + 1, d, U, U', h => by
    simp only [bv]
    rw [bw_c (P + 1).toNat 0 (fun u a b => ⟨?_, ?_⟩)]
    · unfold okU
      by_cases e : u = P
      · rw [decide_eq_true (Or.inl e), decide_eq_true (Or.inl e)]
      · rw [h u a (by omega)]
    · rw [bv_c hp g (d + 1) (upU U u) (upU U' u) (fun o o0 o1 => by unfold upU; rw [h o o0 o1])]
theorem bw_f {ok : Int → Bool} {x : Int → Int} : ∀ (w : Nat) (v : Int), (bw ok x w v).1 = -100000 ∨ (v ≤ (bw ok x w v).2 ∧ (bw ok x w v).2 < v + w ∧ ok (bw ok x w v).2 = true ∧ x (bw ok x w v).2 = (bw ok x w v).1)
  | 0, _ => Or.inl rfl
  | w + 1, v => by
    simp only [bw]
    split
    · rename_i h
      exact Or.inr ⟨by simp only; omega, by simp only; omega, h.1, rfl⟩
    · rcases bw_f (ok := ok) (x := x) w (v + 1) with e | ⟨a, b, c, d⟩
      · exact Or.inl e
      · exact Or.inr ⟨by omega, by omega, c, d⟩
theorem bw_le {ok : Int → Bool} {x : Int → Int} : ∀ (w : Nat) (v : Int), ∀ y, v ≤ y → y < v + w → ok y = true → x y ≤ (bw ok x w v).1
  | 0, _, y, a, b, _ => by omega
  | w + 1, v, y, a, b, h => by
    simp only [bw]
    by_cases e : y = v
    · subst e
      split
      · exact Int.le_refl _
      · rename_i z; have : ¬ (bw ok x w (y + 1)).1 ≤ x y := fun q => z ⟨h, q⟩; omega
    · have i := bw_le (ok := ok) (x := x) w (v + 1) y (by omega) (by omega) h
      split
      · rename_i z; exact Int.le_trans i z.2
      · exact i
theorem bw_lt {ok : Int → Bool} {x : Int → Int} : ∀ (w : Nat) (v : Int), (bw ok x w v).1 ≠ -100000 → ∀ y, v ≤ y → y < (bw ok x w v).2 → ok y = true → x y < (bw ok x w v).1
  | 0, _, h, _, _, _, _ => absurd rfl h
  | w + 1, v, h, y, a, b, o => by
    simp only [bw] at h b ⊢
    split at b
    · rename_i z; simp only at b; omega
    · rename_i z
      rw [if_neg z] at h ⊢
      by_cases e : y = v
      · subst e
        have : ¬ (bw ok x w (y + 1)).1 ≤ x y := fun q => z ⟨o, q⟩
        omega
      · exact bw_lt w (v + 1) h y (by omega) b o
/-- nothing is below -/
theorem bv_0 {P : Int} {T : Int → Int → Int} (hp : 1 ≤ P) (hT : ∀ i o, 0 ≤ i → i < P → 0 ≤ o → o < P → 0 ≤ T i o ∧ T i o ≤ 1000) : ∀ (g : Nat) (d : Int) (U : Int → Bool), 0 ≤ d → d + g ≤ P → 0 ≤ bv P T g d U ∧ bv P T g d U ≤ 1000 * g
  | 0, _, _, _, _ => ⟨Int.le_refl 0, by simp [bv]⟩
  | g + 1, d, U, d0, e => by
    have i := fun v => bv_0 hp hT g (d + 1) (upU U v) (by omega) (by omega)
    have l := bw_le (ok := okU P T d U) (x := xv P T g d U) (P + 1).toNat 0 P (by omega) (by omega) (decide_eq_true (Or.inl rfl))
    have f := bw_f (ok := okU P T d U) (x := xv P T g d U) (P + 1).toNat 0
    have xP : xv P T g d U P = bv P T g (d + 1) (upU U P) := by unfold xv rvl; rw [if_neg (by omega)]; omega
    rw [xP] at l
    have iP := i P
    show 0 ≤ (bw (okU P T d U) (xv P T g d U) (P + 1).toNat 0).1 ∧ (bw (okU P T d U) (xv P T g d U) (P + 1).toNat 0).1 ≤ 1000 * ((g + 1 : Nat) : Int)
    refine ⟨by omega, ?_⟩
    rcases f with f | ⟨f1, f2, _, f4⟩
    · omega
    · rw [← f4]
      generalize (bw (okU P T d U) (xv P T g d U) (P + 1).toNat 0).2 = u at *
      have iu := i u
      unfold xv rvl
      split
      · have := hT d u d0 (by omega) f1 (by omega); omega
      · omega
theorem rsm_up {P : Int} {T : Int → Int → Int} {c : Int → Int} {d v : Int} : ∀ k : Nat, (k : Int) ≤ d → rsm P T (up c d v) k = rsm P T c k
  | 0, _ => rfl
  | k + 1, h => by
    simp only [rsm]
    rw [rsm_up k (by omega)]
    unfold up
    rw [if_neg (by omega)]
/-- the first of the greatest, told from the front -/
theorem best_rows {P : Int} {T : Int → Int → Int} (hp : 1 ≤ P ∧ P ≤ 5) (hT : ∀ i o, 0 ≤ i → i < P → 0 ≤ o → o < P → 0 ≤ T i o ∧ T i o ≤ 1000) : ∀ (g : Nat) (d : Int) (c : Int → Int) (U : Int → Bool) (b : Int × (Int → Int)), 0 ≤ d → d + g = P → (∀ o, 0 ≤ o → o < P → us c o d.toNat = U o) → -1 ≤ b.1 → rsm P T c d.toNat ≤ 1000 * d →
    (rws P T g d c).foldl (rbt P T) b = if b.1 < rsm P T c d.toNat + bv P T g d U then (rsm P T c d.toNat + bv P T g d U, mr P (gr P T g d U c)) else b := by
  intro g
  induction g with
  | zero =>
    intro d c U b d0 e hU hb hs
    have : d.toNat = P.toNat := by omega
    simp only [rws, List.foldl, bv, gr, Int.add_zero]
    unfold rbt
    rw [this]
  | succ g ih =>
    intro d c U b d0 e hU hb hs
    have ud : ∀ v, 0 ≤ v → v ≤ P → ∀ o, 0 ≤ o → o < P → us (up c d v) o (d + 1).toNat = upU U v o := by
      intro v v0 v1 o o0 o1
      have e1 : (d + 1).toNat = d.toNat + 1 := by omega
      have e2 : ((d.toNat : Nat) : Int) = d := by omega
      rw [e1]
      simp only [us]
      have e3 : us (up c d v) o d.toNat = us c o d.toNat := by
        cases h : us c o d.toNat with
        | false => exact us_mk (fun x x0 x1 => by unfold up; rw [if_neg (by omega)]; exact us_f h x x0 x1)
        | true =>
          cases h2 : us (up c d v) o d.toNat with
          | true => rfl
          | false =>
            have : us c o d.toNat = false := us_mk (fun x x0 x1 => by have := us_f h2 x x0 x1; unfold up at this; rw [if_neg (by omega)] at this; exact this)
            rw [h] at this; exact absurd this (by decide)
      rw [e3, hU o o0 o1, e2]
      unfold up upU
      rw [if_pos rfl]
      by_cases q : o = v
      · rw [if_pos q, decide_eq_true q.symm, Bool.or_true]
      · rw [if_neg q, decide_eq_false (fun w => q w.symm), Bool.or_false]
    have okk : ∀ v, 0 ≤ v → v ≤ P → okr P T d v c = okU P T d U v := by
      intro v v0 v1
      unfold okr okU
      by_cases q : v = P
      · rw [decide_eq_true (Or.inl q), decide_eq_true (Or.inl q)]
      · rw [hU v v0 (by omega)]
    have S : ∀ v, 0 ≤ v → v ≤ P → rsm P T (up c d v) (d + 1).toNat = rsm P T c d.toNat + rvl P T d v := by
      intro v v0 v1
      have e1 : (d + 1).toNat = d.toNat + 1 := by omega
      have e2 : ((d.toNat : Nat) : Int) = d := by omega
      rw [e1]
      simp only [rsm]
      rw [rsm_up _ (by omega), e2]
      unfold up
      rw [if_pos rfl]
    have loop : ∀ (w : Nat) (v : Int) (b : Int × (Int → Int)) (B : Int × Int), 0 ≤ v → v + w = P + 1 → -1 ≤ b.1 → bw (okU P T d U) (xv P T g d U) w v = B → (rvs (rfn P T g d c) w v).foldl (rbt P T) b = if b.1 < rsm P T c d.toNat + B.1 then (rsm P T c d.toNat + B.1, mr P (gr P T g (d + 1) (upU U B.2) (up c d B.2))) else b := by
      intro w
      induction w with
      | zero =>
        intro v b B v0 vw hb hB
        have hB1 : B.1 = -100000 := by rw [← hB]; rfl
        simp only [rvs, List.foldl]
        rw [if_neg (by omega)]
      | succ w ihw =>
        intro v b B v0 vw hb hB
        have oe := okk v v0 (by omega)
        have hB2 : (if okU P T d U v = true ∧ (bw (okU P T d U) (xv P T g d U) w (v + 1)).1 ≤ xv P T g d U v then (xv P T g d U v, v) else bw (okU P T d U) (xv P T g d U) w (v + 1)) = B := hB
        simp only [rvs, List.foldl_append]
        by_cases ho : okU P T d U v = true
        · have vr : rvl P T d v ≤ 1000 := by
            unfold rvl; split
            · exact (hT d v d0 (by omega) v0 (by omega)).2
            · omega
          rw [rfn_t (by rw [oe]; exact ho), ih (d + 1) (up c d v) (upU U v) b (by omega) (by omega) (ud v v0 (by omega)) hb (by rw [S v v0 (by omega)]; omega), S v v0 (by omega)]
          have ex : rsm P T c d.toNat + rvl P T d v + bv P T g (d + 1) (upU U v) = rsm P T c d.toNat + xv P T g d U v := by show _ = rsm P T c d.toNat + (rvl P T d v + bv P T g (d + 1) (upU U v)); omega
          rw [ex]
          have nx := fun b2 h2 => ihw (v + 1) b2 (bw (okU P T d U) (xv P T g d U) w (v + 1)) (by omega) (by omega) h2 rfl
          by_cases c2 : (bw (okU P T d U) (xv P T g d U) w (v + 1)).1 ≤ xv P T g d U v
          · rw [if_pos ⟨ho, c2⟩] at hB2
            rw [← hB2]
            by_cases c1 : b.1 < rsm P T c d.toNat + xv P T g d U v
            · rw [if_pos c1, nx _ (by show -1 ≤ rsm P T c d.toNat + xv P T g d U v; omega), if_neg (by show ¬ rsm P T c d.toNat + xv P T g d U v < _; omega)]
            · rw [if_neg c1, nx b hb, if_neg (by omega)]
          · rw [if_neg (fun z => c2 z.2)] at hB2
            rw [← hB2]
            by_cases c1 : b.1 < rsm P T c d.toNat + xv P T g d U v
            · rw [if_pos c1, nx _ (by show -1 ≤ rsm P T c d.toNat + xv P T g d U v; omega), if_pos (by show rsm P T c d.toNat + xv P T g d U v < _; omega), if_pos (by omega)]
            · rw [if_neg c1, nx b hb]
        · rw [if_neg (fun z => ho z.1)] at hB2
          rw [rfn_f (by rw [oe]; exact Bool.eq_false_iff.mpr ho)]
          exact ihw (v + 1) b B (by omega) (by omega) hb hB2
    exact loop (P + 1).toNat 0 b _ (by decide) (by omega) hb rfl
theorem rbst_gr {P : Int} {T : Int → Int → Int} (hp : 1 ≤ P ∧ P ≤ 5) (hT : ∀ i o, 0 ≤ i → i < P → 0 ≤ o → o < P → 0 ≤ T i o ∧ T i o ≤ 1000) : (rbst P T (Rw P T)).2 = mr P (gr P T P.toNat 0 (fun _ => false) (fun _ => 0)) := by
  unfold rbst Rw
  have b0 := bv_0 hp.1 hT P.toNat 0 (fun _ => false) (by decide) (by omega)
  rw [best_rows hp hT P.toNat 0 (fun _ => 0) (fun _ => false) _ (by decide) (by omega) (fun _ _ _ => rfl) (by decide) (Int.le_refl 0)]
  have z : rsm P T (fun _ => 0) (0 : Int).toNat = 0 := rfl
  rw [z, if_pos (by simp only; omega)]
end T71
