section T79
theorem us_t {m : Int → Int} {o : Int} {k : Nat} {x : Int} (x0 : 0 ≤ x) (x1 : x < k) (h : m x = o) : us m o k = true := by
  cases hu : us m o k with
  | true => rfl
  | false => exact absurd h (us_f hu x x0 x1)
theorem us_cg {m m' : Int → Int} {o : Int} : ∀ k : Nat, (∀ x : Int, 0 ≤ x → x < k → m x = m' x) → us m o k = us m' o k
  | 0, _ => rfl
  | k + 1, h => by simp only [us]; rw [us_cg k (fun x a b => h x a (by omega)), h k (by omega) (by omega)]
theorem mx_le {f : Int → Int} : ∀ (k : Nat) (j : Int), 0 ≤ j → j < k → f j ≤ mx f k
  | 0, _, a, b => by omega
  | k + 1, j, a, b => by
    simp only [mx]
    by_cases e : j = k
    · rw [e]; omega
    · have := mx_le (f := f) k j a (by omega); omega
theorem spn_le {T : Int → Int → Int} {P : Nat} {j : Int} (j0 : 0 ≤ j) (j1 : j < P) : rs T P j ≤ spn T P ∧ cs T P j ≤ spn T P := by
  have := mx_le (f := fun k => max (rs T P k) (cs T P k)) P j j0 j1
  unfold spn
  constructor <;> omega
/-- the search finds a tight row -/
theorem tight_in {P : Nat} {T : Int → Int → Int} (hP1 : 1 ≤ P) (hP5 : P ≤ 5) (hT : Tb T) (hs : 0 < spn T P) : ∃ c, c ∈ Rw P T ∧ Tg P T (spn T P) c := by
  have eP : (P : Int).toNat = P := by omega
  obtain ⟨c, c1, c2, c3⟩ := tight_row (P := P) (s := spn T P) (L := T) (by omega) hs (fun i o i0 i1 o0 o1 => (hT i o i0 (by omega) o0 (by omega)).1) (fun i i0 i1 => by rw [eP, ← sm_Sg]; exact (spn_le i0 i1).1) (fun o o0 o1 => by rw [eP, ← sm_Sg]; exact (spn_le o0 o1).2)
  obtain ⟨c', m, q⟩ := rws_in (P := P) (T := T) (by omega) c1 (P : Int).toNat 0 (fun _ => 0) (by decide) (by omega) (fun x a b => by omega)
  refine ⟨c', m, fun x x0 x1 nx hx => ?_, fun o o0 o1 hu ho => ?_⟩
  · have := c2 x x0 x1 (by rw [eP, ← sm_Sg]; exact hx)
    rw [q x x0 x1] at nx; exact nx this
  · obtain ⟨x, x0, x1, hx⟩ := c3 o o0 o1 (by rw [eP, ← sm_Sg]; exact ho)
    have := us_t (m := c') (o := o) x0 x1 (by rw [q x x0 x1]; exact hx)
    rw [hu] at this; exact absurd this (by decide)
end T79
