section T85
/-- a table cut to its ports -/
def cut (P : Nat) (T : Int → Int → Int) : Int → Int → Int := fun i o => if (0 ≤ i ∧ i < P) ∧ (0 ≤ o ∧ o < P) then T i o else 0
/-- a table less m times a row -/
def lsm (P : Nat) (T : Int → Int → Int) (c : Int → Int) (m : Int) : Int → Int → Int := fun i o => if (0 ≤ i ∧ i < P) ∧ (0 ≤ o ∧ o < P) then (if c i = o then T i o - m else T i o) else 0
theorem lsm_0 {P : Nat} {T : Int → Int → Int} {c : Int → Int} : lsm P T c 0 = cut P T := by
  funext i o
  unfold lsm cut
  split
  · split <;> omega
  · rfl
theorem lsm_2 {P : Nat} {T : Int → Int → Int} {c : Int → Int} {a b : Int} : lsm P (lsm P T c a) c b = lsm P T c (a + b) := by
  funext i o
  unfold lsm
  by_cases q : (0 ≤ i ∧ i < (P : Int)) ∧ (0 ≤ o ∧ o < (P : Int))
  · simp only [if_pos q]
    split <;> omega
  · simp only [if_neg q]
theorem cut_2 {P : Nat} {T : Int → Int → Int} : cut P (cut P T) = cut P T := by
  funext i o
  unfold cut
  split <;> rfl
theorem cut_l {P : Nat} {T : Int → Int → Int} {c : Int → Int} {m : Int} : cut P (lsm P T c m) = lsm P T c m := by
  funext i o
  unfold cut lsm
  split <;> rfl
theorem rs_e {P : Nat} {T T' : Int → Int → Int} {x : Int} (h : ∀ o : Int, 0 ≤ o → o < P → T x o = T' x o) : rs T P x = rs T' P x := sm_ext P h
theorem cs_e {P : Nat} {T T' : Int → Int → Int} {x : Int} (h : ∀ o : Int, 0 ≤ o → o < P → T o x = T' o x) : cs T P x = cs T' P x := sm_ext P h
theorem mx_e {f g : Int → Int} : ∀ k : Nat, (∀ x : Int, 0 ≤ x → x < k → f x = g x) → mx f k = mx g k
  | 0, _ => rfl
  | k + 1, h => by simp only [mx]; rw [mx_e k (fun x a b => h x a (by omega)), h k (by omega) (by omega)]
theorem spn_e {P : Nat} {T T' : Int → Int → Int} (h : ∀ i o : Int, 0 ≤ i → i < P → 0 ≤ o → o < P → T i o = T' i o) : spn T P = spn T' P :=
  mx_e P (fun x a b => by rw [rs_e (T := T) (T' := T') (fun o o0 o1 => h x o a b o0 o1), cs_e (T := T) (T' := T') (fun o o0 o1 => h o x o0 o1 a b)])
theorem cut_in {P : Nat} {T : Int → Int → Int} {i o : Int} (i0 : 0 ≤ i) (i1 : i < P) (o0 : 0 ≤ o) (o1 : o < P) : cut P T i o = T i o := by unfold cut; rw [if_pos ⟨⟨i0, i1⟩, o0, o1⟩]
theorem lsm_in {P : Nat} {T : Int → Int → Int} {c : Int → Int} {m i o : Int} (i0 : 0 ≤ i) (i1 : i < P) (o0 : 0 ≤ o) (o1 : o < P) : lsm P T c m i o = if c i = o then T i o - m else T i o := by unfold lsm; rw [if_pos ⟨⟨i0, i1⟩, o0, o1⟩]
theorem lsm_s {P : Nat} {T : Int → Int → Int} {c : Int → Int} {m : Int} {i o : Int} (i0 : 0 ≤ i) (i1 : i < P) (o0 : 0 ≤ o) (o1 : o < P) : lsm P T c (m + 1) i o = lessR (lsm P T c m) c i o := by
  rw [lsm_in i0 i1 o0 o1]
  unfold lessR
  rw [lsm_in i0 i1 o0 o1]
  split <;> omega
theorem rs_lsm {P : Nat} {T : Int → Int → Int} {c : Int → Int} {x : Int} (x0 : 0 ≤ x) (x1 : x < P) (h0 : 0 ≤ c x) : ∀ m : Nat, rs (lsm P T c m) P x = rs T P x - (if c x < P then (m : Int) else 0)
  | 0 => by
    rw [rs_e (T' := T) (fun o o0 o1 => by rw [lsm_in x0 x1 o0 o1]; split <;> omega)]
    split <;> omega
  | m + 1 => by
    rw [rs_e (T := lsm P T c (m + 1 : Nat)) (T' := lessR (lsm P T c m) c) (fun o o0 o1 => by rw [Int.natCast_add]; exact lsm_s x0 x1 o0 o1), rs_less h0, rs_lsm x0 x1 h0 m]
    split <;> omega
theorem cs_lsm {P : Nat} {T : Int → Int → Int} {c : Int → Int} {x : Int} (x0 : 0 ≤ x) (x1 : x < P) (j : ∀ x y : Int, 0 ≤ x → x < P → 0 ≤ y → y < P → c y < P → c x = c y → x = y) : ∀ m : Nat, cs (lsm P T c m) P x = cs T P x - (if us c x P = true then (m : Int) else 0)
  | 0 => by
    rw [cs_e (T' := T) (fun o o0 o1 => by rw [lsm_in o0 o1 x0 x1]; split <;> omega)]
    split <;> omega
  | m + 1 => by
    rw [cs_e (T := lsm P T c (m + 1 : Nat)) (T' := lessR (lsm P T c m) c) (fun o o0 o1 => by rw [Int.natCast_add]; exact lsm_s o0 o1 x0 x1), cs_less x1 j, cs_lsm x0 x1 j m]
    split <;> omega
theorem spn_is {P : Nat} {T : Int → Int → Int} {b : Int} (b0 : 0 ≤ b) (l : ∀ x : Int, 0 ≤ x → x < P → rs T P x ≤ b ∧ cs T P x ≤ b) {x : Int} (x0 : 0 ≤ x) (x1 : x < P) (e : rs T P x = b ∨ cs T P x = b) : spn T P = b := by
  have u := (mx_b (f := fun k => max (rs T P k) (cs T P k)) (c := b) b0 P (fun x a b => by have := l x a b; show max _ _ ≤ _; omega)).2
  have u2 : spn T P ≤ b := u
  have v := spn_le (T := T) x0 x1
  omega
theorem spn_at {P : Nat} {T : Int → Int → Int} (hs : 0 < spn T P) : ∃ x : Int, 0 ≤ x ∧ x < P ∧ (rs T P x = spn T P ∨ cs T P x = spn T P) := by
  rcases mx_at (f := fun k => max (rs T P k) (cs T P k)) P with w | ⟨x, x0, x1, e⟩
  · have : spn T P = 0 := w
    omega
  · have e2 : max (rs T P x) (cs T P x) = spn T P := e
    exact ⟨x, x0, x1, by omega⟩
/-- how long a row stays -/
def Ln (P : Nat) (T : Int → Int → Int) (c : Int → Int) (L : Int) : Prop :=
  (L ≤ spn T P ∧ (∀ x : Int, 0 ≤ x → x < P → (c x < P → L ≤ T x (c x)) ∧ (¬ c x < P → L ≤ spn T P - rs T P x)) ∧ (∀ o : Int, 0 ≤ o → o < P → us c o P = false → L ≤ spn T P - cs T P o)) ∧
  (L = spn T P ∨ (∃ x : Int, 0 ≤ x ∧ x < P ∧ c x < P ∧ L = T x (c x)) ∨ (∃ x : Int, 0 ≤ x ∧ x < P ∧ ¬ c x < P ∧ L = spn T P - rs T P x) ∨ (∃ o : Int, 0 ≤ o ∧ o < P ∧ us c o P = false ∧ L = spn T P - cs T P o))
theorem Ln_0 {P : Nat} {T : Int → Int → Int} {c : Int → Int} {L : Int} (hP : 1 ≤ P) (hs : 0 < spn T P) (f : FR P T c) (h : Ln P T c L) : 0 < L := by
  obtain ⟨r, j, tg⟩ := FR_r hP f
  rcases h.2 with e | ⟨x, x0, x1, w, e⟩ | ⟨x, x0, x1, w, e⟩ | ⟨x, x0, x1, w, e⟩
  · omega
  · have := (r x x0 x1).2.2 w; omega
  · have := tg.1 x x0 x1 w; have := spn_le (T := T) x0 x1; omega
  · have := tg.2 x x0 x1 w; have := spn_le (T := T) x0 x1; omega
theorem Tb_l {P : Nat} {T : Int → Int → Int} {c : Int → Int} {L : Int} (hP5 : P ≤ 5) (hT : Tb T) (h : Ln P T c L) {t : Nat} (ht : (t : Int) ≤ L) : Tb (lsm P T c t) := by
  intro i o i0 i1 o0 o1
  have q := hT i o i0 i1 o0 o1
  unfold lsm
  split
  · rename_i w
    split
    · rename_i w2
      have := (h.1.2.1 i i0 w.1.2).1 (by omega)
      rw [w2] at this
      omega
    · exact q
  · exact ⟨Int.le_refl 0, by decide⟩
theorem spn_l {P : Nat} {T : Int → Int → Int} {c : Int → Int} {L : Int} (hP : 1 ≤ P) (hs : 0 < spn T P) (f : FR P T c) (h : Ln P T c L) {t : Nat} (ht : (t : Int) ≤ L) : spn (lsm P T c t) P = spn T P - t := by
  obtain ⟨r, j, tg⟩ := FR_r hP f
  obtain ⟨x, x0, x1, e⟩ := spn_at hs
  have L1 := h.1.1
  refine spn_is (by omega) (fun y y0 y1 => ?_) x0 x1 ?_
  · rw [rs_lsm y0 y1 (r y y0 y1).1, cs_lsm y0 y1 j]
    have := spn_le (T := T) y0 y1
    constructor
    · by_cases q : c y < P
      · rw [if_pos q]; omega
      · have := (h.1.2.1 y y0 y1).2 q
        rw [if_neg q]; omega
    · cases hu : us c y P with
      | true => rw [if_pos rfl]; omega
      | false => have := h.1.2.2 y y0 y1 hu; rw [if_neg (by decide)]; omega
  · rw [rs_lsm x0 x1 (r x x0 x1).1, cs_lsm x0 x1 j]
    rcases e with e | e
    · have q : c x < P := Classical.byContradiction (fun w => tg.1 x x0 x1 w e)
      rw [if_pos q]; omega
    · cases hu : us c x P with
      | true => rw [if_pos rfl]; omega
      | false => exact absurd e (tg.2 x x0 x1 hu)
/-- while the row stays, the first tight row is the same -/
theorem FR_same {P : Nat} {T : Int → Int → Int} {c : Int → Int} {L : Int} (hP : 1 ≤ P) (hT : Tb T) (hs : 0 < spn T P) (f : FR P T c) (h : Ln P T c L) {t : Nat} (ht : (t : Int) < L) : FR P (lsm P T c t) c := by
  obtain ⟨r, j, tg⟩ := FR_r hP f
  have sl := spn_l hP hs f h (t := t) (by omega)
  have er : Rw P (lsm P T c t) = Rw P T := rws_cg (by omega) (fun i o i0 i1 o0 o1 => by
    rw [lsm_in i0 i1 o0 o1]
    by_cases q : c i = o
    · rw [if_pos q]
      have := (h.1.2.1 i i0 i1).1 (by omega)
      rw [q] at this
      constructor <;> intro <;> omega
    · rw [if_neg q]) _ 0 _ (by decide) (by omega)
  have rr : ∀ x : Int, 0 ≤ x → x < P → (rs (lsm P T c t) P x = spn T P - t ↔ rs T P x = spn T P) := fun x x0 x1 => by
    rw [rs_lsm x0 x1 (r x x0 x1).1]
    by_cases q : c x < P
    · rw [if_pos q]; constructor <;> intro <;> omega
    · rw [if_neg q]
      have := (h.1.2.1 x x0 x1).2 q
      constructor <;> intro <;> omega
  have cc : ∀ x : Int, 0 ≤ x → x < P → (cs (lsm P T c t) P x = spn T P - t ↔ cs T P x = spn T P) := fun x x0 x1 => by
    rw [cs_lsm x0 x1 j]
    cases hu : us c x P with
    | true => rw [if_pos rfl]; constructor <;> intro <;> omega
    | false =>
      have := h.1.2.2 x x0 x1 hu
      rw [if_neg (by decide)]
      constructor <;> intro <;> omega
  unfold FR
  rw [er, sl]
  refine Fs_c (fun c' => ⟨fun w => ⟨fun x x0 x1 q z => w.1 x x0 x1 q ((rr x x0 x1).mp z), fun x x0 x1 q z => w.2 x x0 x1 q ((cc x x0 x1).mp z)⟩, fun w => ⟨fun x x0 x1 q z => w.1 x x0 x1 q ((rr x x0 x1).mpr z), fun x x0 x1 q z => w.2 x x0 x1 q ((cc x x0 x1).mpr z)⟩⟩) _ f
/-- behind its time it is another one -/
theorem FR_next {P : Nat} {T : Int → Int → Int} {c c' : Int → Int} {L : Nat} (hP : 1 ≤ P) (hs : 0 < spn T P) (f : FR P T c) (h : Ln P T c L) (hs2 : 0 < spn T P - L) (f2 : FR P (lsm P T c L) c') : ∃ x : Int, 0 ≤ x ∧ x < P ∧ c' x ≠ c x := by
  obtain ⟨r, j, tg⟩ := FR_r hP f
  obtain ⟨r2, j2, tg2⟩ := FR_r hP f2
  have sl := spn_l hP hs f h (t := L) (by omega)
  rw [sl] at tg2
  rcases h.2 with e | ⟨x, x0, x1, w, e⟩ | ⟨x, x0, x1, w, e⟩ | ⟨o, o0, o1, w, e⟩
  · omega
  · refine ⟨x, x0, x1, fun q => ?_⟩
    have := (r2 x x0 x1).2.2 (by omega)
    rw [q, lsm_in x0 x1 (r x x0 x1).1 w, if_pos rfl] at this
    omega
  · refine ⟨x, x0, x1, fun q => tg2.1 x x0 x1 (by omega) ?_⟩
    rw [rs_lsm x0 x1 (r x x0 x1).1, if_neg w]; omega
  · refine Classical.byContradiction (fun z => ?_)
    have u : us c' o P = us c o P := us_cg P (fun x x0 x1 => Classical.byContradiction (fun q => z ⟨x, x0, x1, q⟩))
    clear z
    rw [w] at u
    refine tg2.2 o o0 o1 u ?_
    rw [cs_lsm o0 o1 j, w, if_neg (by decide)]; omega
noncomputable def fr (P : Nat) (T : Int → Int → Int) : Int → Int := @dite _ (∃ c, FR P T c) (Classical.propDecidable _) (fun h => Classical.choose h) (fun _ => fun _ => 0)
theorem fr_e {P : Nat} {T : Int → Int → Int} {c : Int → Int} (f : FR P T c) : fr P T = c := by
  unfold fr
  have h : ∃ c, FR P T c := ⟨c, f⟩
  rw [dif_pos h]
  exact Fs_u _ (Classical.choose_spec h) f
/-- what is left behind t rounds -/
noncomputable def tq (P : Nat) (T : Int → Int → Int) : Nat → Int → Int → Int
  | 0 => cut P T
  | t + 1 => lsm P (tq P T t) (fr P (tq P T t)) 1
theorem tq_cut {P : Nat} {T : Int → Int → Int} : ∀ t : Nat, cut P (tq P T t) = tq P T t
  | 0 => by simp only [tq]; exact cut_2
  | t + 1 => by simp only [tq]; exact cut_l
theorem tq_ph {P : Nat} {T A : Int → Int → Int} {c : Int → Int} {L : Int} {a : Nat} (hP : 1 ≤ P) (eA : tq P T a = A) (hA : Tb A) (hs : 0 < spn A P) (f : FR P A c) (h : Ln P A c L) : ∀ t : Nat, ((t : Int) ≤ L → tq P T (a + t) = lsm P A c t) ∧ ((t : Int) < L → fr P (tq P T (a + t)) = c)
  | 0 => by
    have e : tq P T (a + 0) = lsm P A c (0 : Nat) := by
      show tq P T a = lsm P A c 0
      rw [lsm_0, ← eA, tq_cut]
    exact ⟨fun _ => e, fun w => by rw [e]; exact fr_e (FR_same hP hA hs f h (t := 0) w)⟩
  | t + 1 => by
    have ih := tq_ph hP eA hA hs f h t
    have e : ((t + 1 : Nat) : Int) ≤ L → tq P T (a + (t + 1)) = lsm P A c (t + 1 : Nat) := fun w => by
      show lsm P (tq P T (a + t)) (fr P (tq P T (a + t))) 1 = _
      rw [ih.2 (by omega), ih.1 (by omega), lsm_2]
      rfl
    exact ⟨e, fun w => by rw [e (by omega)]; exact fr_e (FR_same hP hA hs f h (t := t + 1) w)⟩
end T85
