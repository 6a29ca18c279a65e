section T84
/-- the first of a list with Q -/
def Fs (Q : (Int → Int) → Prop) (c : Int → Int) : List (Int → Int) → Prop
  | [] => False
  | a :: l => (Q a ∧ c = a) ∨ (¬ Q a ∧ Fs Q c l)
theorem Fs_u {Q : (Int → Int) → Prop} {c c' : Int → Int} : ∀ L, Fs Q c L → Fs Q c' L → c = c'
  | [], h, _ => h.elim
  | a :: l, h, h' => by
    rcases h with h | h
    · rcases h' with h' | h'
      · rw [h.2, h'.2]
      · exact absurd h.1 h'.1
    · rcases h' with h' | h'
      · exact absurd h'.1 h.1
      · exact Fs_u l h.2 h'.2
theorem Fs_l {Q : (Int → Int) → Prop} {c : Int → Int} : ∀ s l, Fs Q c s → Fs Q c (s ++ l)
  | [], _, h => h.elim
  | a :: s, l, h => by
    rcases h with h | h
    · exact Or.inl h
    · exact Or.inr ⟨h.1, Fs_l s l h.2⟩
theorem Fs_r {Q : (Int → Int) → Prop} {c : Int → Int} : ∀ s l, (∀ x, x ∈ s → ¬ Q x) → Fs Q c l → Fs Q c (s ++ l)
  | [], _, _, h => h
  | a :: s, l, n, h => Or.inr ⟨n a List.mem_cons_self, Fs_r s l (fun x m => n x (List.mem_cons_of_mem _ m)) h⟩
theorem Fs_m {Q : (Int → Int) → Prop} {c : Int → Int} : ∀ L, Fs Q c L → c ∈ L ∧ Q c
  | [], h => h.elim
  | a :: l, h => by
    rcases h with h | h
    · rw [h.2]; exact ⟨List.mem_cons_self, h.1⟩
    · have := Fs_m l h.2
      exact ⟨List.mem_cons_of_mem _ this.1, this.2⟩
theorem Fs_c {Q Q' : (Int → Int) → Prop} {c : Int → Int} (e : ∀ x, Q x ↔ Q' x) : ∀ L, Fs Q c L → Fs Q' c L
  | [], h => h.elim
  | a :: l, h => by
    rcases h with h | h
    · exact Or.inl ⟨(e a).mp h.1, h.2⟩
    · exact Or.inr ⟨fun z => h.1 ((e a).mpr z), Fs_c e l h.2⟩
theorem Fs_x {Q : (Int → Int) → Prop} : ∀ L, (∃ c, c ∈ L ∧ Q c) → ∃ c, Fs Q c L
  | [], h => by obtain ⟨c, m, _⟩ := h; simp at m
  | a :: l, h => by
    by_cases q : Q a
    · exact ⟨a, Or.inl ⟨q, rfl⟩⟩
    · obtain ⟨c, m, hc⟩ := h
      rcases List.mem_cons.mp m with e | m
      · rw [e] at hc; exact absurd hc q
      · obtain ⟨c', h'⟩ := Fs_x l ⟨c, m, hc⟩
        exact ⟨c', Or.inr ⟨q, h'⟩⟩
theorem Fs_rvs {Q : (Int → Int) → Prop} {c : Int → Int} {f : Int → List (Int → Int)} {u : Int} : ∀ (w : Nat) (v : Int), v ≤ u → u < v + w → (∀ y, v ≤ y → y < u → ∀ x, x ∈ f y → ¬ Q x) → Fs Q c (f u) → Fs Q c (rvs f w v)
  | 0, _, a, b, _, _ => by omega
  | w + 1, v, a, b, n, h => by
    simp only [rvs]
    by_cases e : u = v
    · rw [e] at h; exact Fs_l _ _ h
    · exact Fs_r _ _ (n v (by omega) (by omega)) (Fs_rvs w (v + 1) (by omega) (by omega) (fun y a b => n y (by omega) b) h)
/-- the rest of the rows from d on can be given, where U are given -/
def gon (P : Nat) (T : Int → Int → Int) (s : Int) : Nat → Int → (Int → Bool) → Prop
  | 0, _, U => ∀ o : Int, 0 ≤ o → o < P → cs T P o = s → U o = true
  | g + 1, d, U => (rs T P d ≠ s ∧ gon P T s g (d + 1) U) ∨ ∃ o : Int, (0 ≤ o ∧ o < P) ∧ 0 < T d o ∧ U o = false ∧ gon P T s g (d + 1) (upU U o)
theorem gon_c {P : Nat} {T : Int → Int → Int} {s : Int} : ∀ (g : Nat) (d : Int) (U U' : Int → Bool), (∀ o : Int, 0 ≤ o → o < P → U o = U' o) → gon P T s g d U → gon P T s g d U'
  | 0, _, _, _, e, h => fun o a b q => by rw [← e o a b]; exact h o a b q
  | g + 1, d, U, U', e, h => by
    rcases h with h | ⟨o, a, b, c, h⟩
    · exact Or.inl ⟨h.1, gon_c g (d + 1) U U' e h.2⟩
    · refine Or.inr ⟨o, a, b, by rw [← e o a.1 a.2]; exact c, gon_c g (d + 1) _ _ (fun x x0 x1 => ?_) h⟩
      unfold upU; rw [e x x0 x1]
theorem rws_p {P : Int} {T : Int → Int → Int} : ∀ (g : Nat) (d : Int) (c0 c : Int → Int), c ∈ rws P T g d c0 → ∀ x, x < d → c x = c0 x
  | 0, d, c0, c, h => by
    simp only [rws, List.mem_singleton] at h
    subst h
    exact fun _ _ => rfl
  | g + 1, d, c0, c, h => by
    simp only [rws] at h
    obtain ⟨u, a, b, hm⟩ := rvs_m _ _ h
    by_cases ok : okr P T d u c0 = true
    · simp only [if_pos ok] at hm
      intro x hx
      rw [rws_p g (d + 1) _ c hm x (by omega)]
      unfold up; rw [if_neg (by omega)]
    · simp only [if_neg ok] at hm
      simp at hm
theorem us_up {c0 : Int → Int} {d v : Int} (d0 : 0 ≤ d) (o : Int) : us (up c0 d v) o (d + 1).toNat = upU (fun o => us c0 o d.toNat) v o := by
  have e : (d + 1).toNat = d.toNat + 1 := by omega
  rw [e]
  simp only [us]
  have e2 : ((d.toNat : Nat) : Int) = d := by omega
  have e3 : us (up c0 d v) o d.toNat = us c0 o d.toNat := us_cg _ (fun x a b => by unfold up; rw [if_neg (by omega)])
  have e4 : up c0 d v d = v := by unfold up; rw [if_pos rfl]
  rw [e2, e3, e4]
  unfold upU
  by_cases q : o = v
  · rw [if_pos q, decide_eq_true q.symm, Bool.or_true]
  · rw [if_neg q, decide_eq_false (fun w => q w.symm), Bool.or_false]
/-- a tight row among those that go on from c0 -/
theorem gon_of {P : Nat} {T : Int → Int → Int} {s : Int} (hP : 1 ≤ P) : ∀ (g : Nat) (d : Int) (c0 c : Int → Int), 0 ≤ d → d + g = P → c ∈ rws P T g d c0 → Tg P T s c → gon P T s g d (fun o => us c0 o d.toNat)
  | 0, d, c0, c, d0, e, m, tg => by
    simp only [rws, List.mem_singleton] at m
    subst m
    intro o o0 o1 q
    have ed : d.toNat = P := by omega
    show us c o d.toNat = true
    rw [ed]
    cases hu : us c o P with
    | true => rfl
    | false => exact absurd q (tg.2 o o0 o1 hu)
  | g + 1, d, c0, c, d0, e, m, tg => by
    simp only [rws] at m
    obtain ⟨u, a, b, hm⟩ := rvs_m _ _ m
    by_cases ok : okr P T d u c0 = true
    · simp only [if_pos ok] at hm
      have ih := gon_of hP g (d + 1) (up c0 d u) c (by omega) (by omega) hm tg
      have cd : c d = u := by rw [rws_p g (d + 1) _ c hm d (by omega)]; unfold up; rw [if_pos rfl]
      by_cases q : u = P
      · refine Or.inl ⟨tg.1 d d0 (by omega) (by omega), gon_c g (d + 1) _ _ (fun o o0 o1 => ?_) ih⟩
        rw [us_up d0]; unfold upU; rw [if_neg (by omega)]
      · rcases of_decide_eq_true ok with w | w
        · exact absurd w q
        · exact Or.inr ⟨u, ⟨a, by omega⟩, w.1, w.2, gon_c g (d + 1) _ _ (fun o o0 o1 => us_up d0 o) ih⟩
    · simp only [if_neg ok] at hm
      simp at hm
/-- the first tight row goes on with the first outlet that can be given -/
theorem Fs_step {P : Nat} {T : Int → Int → Int} {s : Int} (hP : 1 ≤ P) {g : Nat} {d v : Int} {c0 c : Int → Int} (d0 : 0 ≤ d) (e : d + (g + 1 : Nat) = P) (v0 : 0 ≤ v) (v1 : v ≤ P) (ok : okr P T d v c0 = true) (n : ∀ y, 0 ≤ y → y < v → ¬ (0 < T d y ∧ us c0 y d.toNat = false ∧ gon P T s g (d + 1) (upU (fun o => us c0 o d.toNat) y))) (h : Fs (Tg P T s) c (rws P T g (d + 1) (up c0 d v))) : Fs (Tg P T s) c (rws P T (g + 1) d c0) := by
  simp only [rws]
  refine Fs_rvs (u := v) _ _ v0 (by omega) (fun y y0 y1 x m tg => ?_) (by simp only [if_pos ok]; exact h)
  by_cases oy : okr P T d y c0 = true
  · simp only [if_pos oy] at m
    rcases of_decide_eq_true oy with w | w
    · omega
    · exact n y y0 y1 ⟨w.1, w.2, gon_c g (d + 1) _ _ (fun o o0 o1 => us_up d0 o) (gon_of hP g (d + 1) _ x (by omega) (by omega) m tg)⟩
  · simp only [if_neg oy] at m
    simp at m
/-- the first tight row -/
def FR (P : Nat) (T : Int → Int → Int) (c : Int → Int) : Prop := Fs (Tg P T (spn T P)) c (Rw P T)
theorem FR_x {P : Nat} {T : Int → Int → Int} (hP1 : 1 ≤ P) (hP5 : P ≤ 5) (hT : Tb T) (hs : 0 < spn T P) : ∃ c, FR P T c := Fs_x _ (tight_in hP1 hP5 hT hs)
theorem FR_s {P : Nat} {T : Int → Int → Int} {c : Int → Int} {s r : List (Int → Int)} (e : Rw P T = s ++ c :: r) (n : ∀ c', c' ∈ s → ¬ Tg P T (spn T P) c') (tg : Tg P T (spn T P) c) : FR P T c := by
  unfold FR; rw [e]
  exact Fs_r _ _ n (Or.inl ⟨tg, rfl⟩)
/-- the first tight row is one of the table, its outlets differ, it is tight -/
theorem FR_r {P : Nat} {T : Int → Int → Int} {c : Int → Int} (hP : 1 ≤ P) (h : FR P T c) : Rok P T c ∧ (∀ x y : Int, 0 ≤ x → x < P → 0 ≤ y → y < P → c y < P → c x = c y → x = y) ∧ Tg P T (spn T P) c := by
  have m := Fs_m _ h
  exact ⟨rws_r (by omega) (P : Int).toNat 0 _ c (by decide) (by omega) (fun x x0 x1 => by omega) m.1, Rw_j (by omega) m.1, m.2⟩
end T84
