section T86
theorem Sg_lt {f g : Int → Int} {k : Nat} (h : ∀ x : Int, 0 ≤ x → x < k → f x ≤ g x) {y : Int} (y0 : 0 ≤ y) (y1 : y < k) (hy : f y < g y) : Sg f k + 1 ≤ Sg g k := by
  have l := Sg_le k h
  by_cases e : Sg f k = Sg g k
  · have := Sg_eq k h e y y0 y1
    omega
  · omega
def ph1 (P : Nat) (T : Int → Int → Int) : Int := Sg (fun i => Sg (fun o => if 0 < T i o then 1 else 0) P) P
def ph2 (P : Nat) (T : Int → Int → Int) : Int := Sg (fun i => if rs T P i = spn T P then 0 else 1) P
def ph3 (P : Nat) (T : Int → Int → Int) : Int := Sg (fun o => if cs T P o = spn T P then 0 else 1) P
/-- cells in use and lines below the span -/
def phi (P : Nat) (T : Int → Int → Int) : Int := ph1 P T + ph2 P T + ph3 P T
theorem Sg_01 {p : Int → Prop} [∀ x, Decidable (p x)] (k : Nat) : 0 ≤ Sg (fun x => if p x then (1 : Int) else 0) k ∧ Sg (fun x => if p x then (1 : Int) else 0) k ≤ k := by
  have a := Sg_le (f := fun _ => 0) (g := fun x => if p x then (1 : Int) else 0) k (fun x _ _ => by show (0 : Int) ≤ if p x then (1 : Int) else 0; split <;> decide)
  have b := Sg_le (g := fun _ => 1) (f := fun x => if p x then (1 : Int) else 0) k (fun x _ _ => by show (if p x then (1 : Int) else 0) ≤ 1; split <;> decide)
  rw [Sg_0] at a
  rw [Sg_k] at b
  omega
theorem Sg_10 {p : Int → Prop} [∀ x, Decidable (p x)] (k : Nat) : 0 ≤ Sg (fun x => if p x then (0 : Int) else 1) k ∧ Sg (fun x => if p x then (0 : Int) else 1) k ≤ k := by
  have a := Sg_le (f := fun _ => 0) (g := fun x => if p x then (0 : Int) else 1) k (fun x _ _ => by show (0 : Int) ≤ if p x then (0 : Int) else 1; split <;> decide)
  have b := Sg_le (g := fun _ => 1) (f := fun x => if p x then (0 : Int) else 1) k (fun x _ _ => by show (if p x then (0 : Int) else 1) ≤ 1; split <;> decide)
  rw [Sg_0] at a
  rw [Sg_k] at b
  omega
theorem phi_r {P : Nat} {T : Int → Int → Int} (hP5 : P ≤ 5) : 0 ≤ phi P T ∧ phi P T ≤ 35 := by
  have r2 : 0 ≤ ph2 P T ∧ ph2 P T ≤ P := Sg_10 (p := fun i => rs T P i = spn T P) P
  have r3 : 0 ≤ ph3 P T ∧ ph3 P T ≤ P := Sg_10 (p := fun i => cs T P i = spn T P) P
  have inr := fun i : Int => Sg_01 (p := fun o => 0 < T i o) P
  have a := Sg_le (f := fun _ => 0) (g := fun i => Sg (fun o => if 0 < T i o then (1 : Int) else 0) P) P (fun x _ _ => (inr x).1)
  have b := Sg_le (g := fun _ => 5) (f := fun i => Sg (fun o => if 0 < T i o then (1 : Int) else 0) P) P (fun x _ _ => by have := (inr x).2; show Sg _ P ≤ 5; omega)
  rw [Sg_0] at a
  rw [Sg_k] at b
  have a1 : 0 ≤ ph1 P T := a
  have b1 : ph1 P T ≤ P * 5 := b
  unfold phi
  omega
theorem phi_l {P : Nat} {T : Int → Int → Int} {c : Int → Int} {L : Nat} (hP : 1 ≤ P) (hs : 0 < spn T P) (f : FR P T c) (h : Ln P T c L) (hs2 : 0 < spn T P - L) : phi P (lsm P T c L) + 1 ≤ phi P T := by
  obtain ⟨r, j, tg⟩ := FR_r hP f
  have sl := spn_l hP hs f h (t := L) (by omega)
  have p1 : ∀ i o : Int, 0 ≤ i → i < P → 0 ≤ o → o < P → (if 0 < lsm P T c L i o then (1 : Int) else 0) ≤ (if 0 < T i o then (1 : Int) else 0) := fun i o i0 i1 o0 o1 => by
    rw [lsm_in i0 i1 o0 o1]
    repeat' split
    all_goals omega
  have q1 : ∀ i : Int, 0 ≤ i → i < P → Sg (fun o => if 0 < lsm P T c L i o then (1 : Int) else 0) P ≤ Sg (fun o => if 0 < T i o then (1 : Int) else 0) P := fun i i0 i1 => Sg_le P (fun o o0 o1 => p1 i o i0 i1 o0 o1)
  have l1 : ph1 P (lsm P T c L) ≤ ph1 P T := Sg_le P q1
  have q2 : ∀ i : Int, 0 ≤ i → i < P → (if rs (lsm P T c L) P i = spn (lsm P T c L) P then (0 : Int) else 1) ≤ (if rs T P i = spn T P then (0 : Int) else 1) := fun i i0 i1 => by
    rw [sl, rs_lsm i0 i1 (r i i0 i1).1]
    by_cases e : rs T P i = spn T P
    · have : c i < P := Classical.byContradiction (fun w => tg.1 i i0 i1 w e)
      rw [if_pos this, if_pos (by omega), if_pos e]; decide
    · rw [if_neg e]; (repeat' split) <;> decide
  have l2 : ph2 P (lsm P T c L) ≤ ph2 P T := Sg_le P q2
  have q3 : ∀ i : Int, 0 ≤ i → i < P → (if cs (lsm P T c L) P i = spn (lsm P T c L) P then (0 : Int) else 1) ≤ (if cs T P i = spn T P then (0 : Int) else 1) := fun i i0 i1 => by
    rw [sl, cs_lsm i0 i1 j]
    by_cases e : cs T P i = spn T P
    · cases hu : us c i P with
      | true => rw [if_pos rfl, if_pos (by omega), if_pos e]; decide
      | false => exact absurd e (tg.2 i i0 i1 hu)
    · rw [if_neg e]; (repeat' split) <;> decide
  have l3 : ph3 P (lsm P T c L) ≤ ph3 P T := Sg_le P q3
  unfold phi
  rcases h.2 with e | ⟨x, x0, x1, w, e⟩ | ⟨x, x0, x1, w, e⟩ | ⟨o, o0, o1, w, e⟩
  · omega
  · have : ph1 P (lsm P T c L) + 1 ≤ ph1 P T := by
      refine Sg_lt q1 x0 x1 ?_
      have := Sg_lt (k := P) (f := fun o => if 0 < lsm P T c L x o then (1 : Int) else 0) (g := fun o => if 0 < T x o then (1 : Int) else 0) (fun o o0 o1 => p1 x o x0 x1 o0 o1) (y := c x) (r x x0 x1).1 w (by
        show (if 0 < lsm P T c L x (c x) then (1 : Int) else 0) < (if 0 < T x (c x) then (1 : Int) else 0)
        rw [lsm_in x0 x1 (r x x0 x1).1 w, if_pos rfl, if_neg (by omega), if_pos ((r x x0 x1).2.2 w)]; decide)
      exact Int.lt_of_lt_of_le (Int.lt_succ _) this
    omega
  · have : ph2 P (lsm P T c L) + 1 ≤ ph2 P T := by
      refine Sg_lt q2 x0 x1 ?_
      show (if rs (lsm P T c L) P x = spn (lsm P T c L) P then (0 : Int) else 1) < (if rs T P x = spn T P then (0 : Int) else 1)
      rw [sl, rs_lsm x0 x1 (r x x0 x1).1, if_neg w, if_pos (by omega), if_neg (tg.1 x x0 x1 w)]; decide
    omega
  · have : ph3 P (lsm P T c L) + 1 ≤ ph3 P T := by
      refine Sg_lt q3 o0 o1 ?_
      show (if cs (lsm P T c L) P o = spn (lsm P T c L) P then (0 : Int) else 1) < (if cs T P o = spn T P then (0 : Int) else 1)
      rw [sl, cs_lsm o0 o1 j, w, if_neg (show ¬ (false = true) by decide), if_pos (by omega), if_neg (tg.2 o o0 o1 w)]; decide
    omega
end T86
