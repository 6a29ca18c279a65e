section T53
variable {G : zG} {n : Nat} {μ ν : zM}
theorem fb_holes : ∀ (m n : Nat) (f : Nat → Nat), (∀ i, i < n → f i < m) → (∀ i j, i < j → j < n → f i ≠ f j) → n ≤ m := by
  intro m
  induction m with
  | zero =>
    intro n f h1 _
    rcases Nat.eq_zero_or_pos n with h | h
    · omega
    · exact absurd (h1 0 h) (Nat.not_lt_zero _)
  | succ m ih =>
    intro n f h1 h2
    by_cases hx : ∃ i, i < n ∧ f i = m
    · obtain ⟨a, ha, hfa⟩ := hx
      have hg := ih (n - 1) (fun i => if i < a then f i else f (i + 1)) (by
        intro i hi
        by_cases q : i < a
        · simp only [if_pos q]
          have b1 := h1 i (by omega)
          have b2 := h2 i a q ha
          omega
        · simp only [if_neg q]
          have b1 := h1 (i + 1) (by omega)
          have b2 := h2 a (i + 1) (by omega) (by omega)
          omega) (by
        intro i j hij hj
        by_cases q : i < a
        · by_cases r : j < a
          · simp only [if_pos q, if_pos r]
            exact h2 i j hij (by omega)
          · simp only [if_pos q, if_neg r]
            exact h2 i (j + 1) (by omega) (by omega)
        · have r : ¬ j < a := by omega
          simp only [if_neg q, if_neg r]
          exact h2 (i + 1) (j + 1) (by omega) (by omega))
      omega
    · have hg := ih n f (fun i hi => by
        have b1 := h1 i hi
        have b2 : f i ≠ m := fun e => hx ⟨i, hi, e⟩
        omega) h2
      omega
/-- the places that I1 reads are alike -/
def E1 (μ ν : zM) : Prop := (ν 1 0 = μ 1 0 ∧ ν 1 1 = μ 1 1 ∧ ν 1 2 = μ 1 2 ∧ ν 1 3 = μ 1 3) ∧ (ν 127 2 = μ 127 2 ∧ ν 127 3 = μ 127 3 ∧ ν 127 4 = μ 127 4) ∧ (∀ i, 0 ≤ i → i < 20 → ν 2 i = μ 2 i ∧ ν 3 i = μ 3 i ∧ ν 4 i = μ 4 i ∧ ν 128 i = μ 128 i ∧ (μ 2 i ≠ -9 → ν 129 i = μ 129 i)) ∧ (∀ s a, 0 ≤ s → s < 5 → 0 ≤ a → a < 7 → ν (7 + s) a = μ (7 + s) a ∧ ν (13 + s) a = μ (13 + s) a)
theorem E1.up (h : I1 μ) (e : E1 μ ν) {i : Int} (i0 : 0 ≤ i) (i1 : i < 20) (u : Up μ i) : Up ν i := by
  obtain ⟨⟨e0, e1, e2, e3⟩, _, e4, e5⟩ := e
  have hN := h.gd.nn
  obtain ⟨⟨a1, a2, a3⟩, ⟨b1, b2, b3⟩, c1, c2, c3⟩ := h.gd
  obtain ⟨u1, ⟨u2, u3, u4⟩, ⟨u5, u6, u7⟩, u8, u9, u10⟩ := u
  have s1 := sw_lt i0 u1 (show 0 < μ 1 1 by omega)
  have s2 := sw_lt u2 u3 (show 0 < μ 1 1 by omega)
  obtain ⟨f2, f3, f4, f5, f6⟩ := e4 i i0 i1
  unfold Up
  rw [e0, e1, e2, f2, f4, f5, f6 (by omega), (e4 (μ 2 i) u2 (by omega)).2.1, (e5 _ _ s1.1 (by omega) u5 (by omega)).1, (e5 _ _ s2.1 (by omega) u5 (by omega)).2]
  exact ⟨u1, ⟨u2, u3, u4⟩, ⟨u5, u6, u7⟩, u8, u9, u10⟩
theorem I1.eq1 (h : I1 μ) (e : E1 μ ν) : I1 ν := by
  have e' := e
  obtain ⟨⟨e0, e1, e2, e3⟩, ⟨e7, e8, e9⟩, e4, e5⟩ := e
  refine ⟨?_, fun i i0 i1 => ?_, fun j j0 j1 => ?_, fun s a s0 s1 a0 a1 => ?_, fun s a s0 s1 a0 a1 => ?_, ?_⟩
  · have := h.gd
    unfold Gd at this ⊢
    rw [e0, e1, e2, e7, e8, e9]; exact this
  · obtain ⟨f2, f3, f4, f5, f6⟩ := e4 i i0 i1
    rcases h.row i i0 i1 with ⟨d1, d2, d3⟩ | u
    · left
      exact ⟨by rw [f2]; exact d1, by rw [f5]; exact d2, by rw [f4]; exact d3⟩
    · exact Or.inr (e'.up h i0 i1 u)
  · rw [(e4 j j0 j1).2.1]
    rcases h.col j j0 j1 with q | ⟨q1, q2, q3⟩
    · exact Or.inl q
    · right
      exact ⟨q1, q2, by rw [(e4 _ q1 q2).1]; exact q3⟩
  · rw [(e5 s a s0 s1 a0 a1).1]
    rcases h.left s a s0 s1 a0 a1 with q | ⟨q1, q2, q3, q4, q5⟩
    · exact Or.inl q
    · right
      exact ⟨q1, q2, e'.up h q1 q2 q3, by rw [e1]; exact q4, by rw [(e4 _ q1 q2).2.2.1]; exact q5⟩
  · rw [(e5 s a s0 s1 a0 a1).2]
    rcases h.right s a s0 s1 a0 a1 with q | ⟨q1, q2, q3, q4, q5⟩
    · exact Or.inl q
    · right
      exact ⟨q1, q2, e'.up h q1 q2 q3, by rw [e1, (e4 _ q1 q2).1]; exact q4, by rw [(e4 _ q1 q2).2.2.1]; exact q5⟩
  · rw [e3, h.held]
    exact cntC_ext 20 (fun j j0 j1 => ((e4 j j0 (by omega)).2.2.2.1).symm)
/-- the model's part alike, but for what it leaves lying -/
def Sm3 (V ν : zM) : Prop := (ν 127 2 = V 127 2 ∧ ν 127 3 = V 127 3 ∧ ν 127 4 = V 127 4) ∧ (∀ j, ν 128 j = V 128 j) ∧ (∀ j, ν 129 j = V 129 j)
def over (V ν : zM) : zM := fun a j => if a = 127 then ν 127 j else V a j
theorem over_ne {V : zM} {a j : Int} (h : a ≠ 127) : over V ν a j = V a j := by unfold over; rw [if_neg h]
theorem over_I1 {V : zM} (h : I1 V) (s : Sm3 V ν) : I1 (over V ν) ∧ Sm (over V ν) ν := by
  refine ⟨h.eq1 ⟨⟨over_ne (by decide), over_ne (by decide), over_ne (by decide), over_ne (by decide)⟩, ?_, fun i _ _ => ⟨over_ne (by decide), over_ne (by decide), over_ne (by decide), over_ne (by decide), fun _ => over_ne (by decide)⟩, fun s a s0 s1 _ _ => ⟨over_ne (by omega), over_ne (by omega)⟩⟩, fun j => ?_, fun j => ?_, fun j => ?_⟩
  · unfold over; rw [if_pos rfl, if_pos rfl, if_pos rfl]; exact s.1
  · unfold over; rw [if_pos rfl]
  · rw [over_ne (by decide)]; exact s.2.1 j
  · rw [over_ne (by decide)]; exact s.2.2 j
theorem c8_left3 (hn : 154 ≤ n) {V : zM} (hS : Sm3 V ν) (h : I1 V) {s a : Int} (hs0 : 0 ≤ s) (hs : s < V 1 0) (ha0 : 0 ≤ a) (ha : a < 7) {K : Int → zM → Prop} (hK : K (V (7 + s) a) ν) : mX8_atLeft G n s a ν K := by
  have hr := h.gd.1
  obtain ⟨i, m⟩ := over_I1 h hS
  refine c8_atLeft' hn m i hs0 (by rw [over_ne (by decide)]; exact hs) ha0 ha ?_
  rw [over_ne (by omega)]; exact hK
theorem c8_right3 (hn : 154 ≤ n) {V : zM} (hS : Sm3 V ν) (h : I1 V) {s a : Int} (hs0 : 0 ≤ s) (hs : s < V 1 0) (ha0 : 0 ≤ a) (ha : a < 7) {K : Int → zM → Prop} (hK : K (V (13 + s) a) ν) : mX8_atRight G n s a ν K := by
  have hr := h.gd.1
  obtain ⟨i, m⟩ := over_I1 h hS
  refine c8_atRight' hn m i hs0 (by rw [over_ne (by decide)]; exact hs) ha0 ha ?_
  rw [over_ne (by omega)]; exact hK
/-! chains -/
def ch (V : zM) (a b t : Int) : Nat → Int
  | 0 => V (13 + t) a
  | k + 1 => if ch V a b t k = -9 then -9 else if k % 2 = 0 then V (7 + ch V a b t k / V 1 1) b else V (13 + V 2 (ch V a b t k) / V 1 1) a
/-- what a chain is asked for -/
def Cx (V : zM) (a b t : Int) : Prop := I1 V ∧ (0 ≤ t ∧ t < V 1 0) ∧ (0 ≤ a ∧ a < V 1 2) ∧ (0 ≤ b ∧ b < V 1 2) ∧ V (13 + t) b = -9
theorem ch_S {V : zM} {a b t : Int} {k : Nat} (h : ch V a b t (k + 1) ≠ -9) : ch V a b t k ≠ -9 := fun q => h (by show (if _ then _ else _) = _; rw [if_pos q])
theorem ch_le {V : zM} {a b t : Int} {j k : Nat} (h : j ≤ k) (hk : ch V a b t k ≠ -9) : ch V a b t j ≠ -9 := by
  obtain ⟨m, rfl⟩ : ∃ m, k = j + m := ⟨k - j, by omega⟩
  clear h
  induction m with
  | zero => exact hk
  | succ m ih => exact ih (ch_S hk)
theorem ch_e {V : zM} {a b t : Int} {k : Nat} (h : ch V a b t k ≠ -9) (e : k % 2 = 0) : ch V a b t (k + 1) = V (7 + ch V a b t k / V 1 1) b := by
  show (if _ then _ else if _ then _ else _) = _
  rw [if_neg h, if_pos e]
theorem ch_o {V : zM} {a b t : Int} {k : Nat} (h : ch V a b t k ≠ -9) (e : k % 2 = 1) : ch V a b t (k + 1) = V (13 + V 2 (ch V a b t k) / V 1 1) a := by
  show (if _ then _ else if _ then _ else _) = _
  rw [if_neg h, if_neg (by omega)]
/-- the middle switch that a call of the chain leaves -/
def od (a b : Int) (k : Nat) : Int := if k % 2 = 0 then a else b
theorem ch_up {V : zM} {a b t : Int} (c : Cx V a b t) : ∀ k : Nat, ch V a b t k ≠ -9 → (0 ≤ ch V a b t k ∧ ch V a b t k < 20) ∧ Up V (ch V a b t k) ∧ V 4 (ch V a b t k) = od a b k ∧ (k = 0 → V 2 (ch V a b t k) / V 1 1 = t)
  | 0, h => by
    have g := c.1.gd
    rcases c.1.right t a c.2.1.1 (by have := g.1; have := c.2.1; omega) c.2.2.1.1 (by have := g.2.2; have := c.2.2.1; omega) with q | ⟨q1, q2, q3, q4, q5⟩
    · exact absurd q h
    · exact ⟨⟨q1, q2⟩, q3, q5, fun _ => q4⟩
  | k + 1, h => by
    have hk := ch_S h
    obtain ⟨⟨i0, i1⟩, u, _, _⟩ := ch_up c k hk
    have g := c.1.gd
    have s1 := sw_lt i0 u.1 (show 0 < V 1 1 by have := g.2.1; omega)
    have s2 := sw_lt u.2.1.1 u.2.1.2.1 (show 0 < V 1 1 by have := g.2.1; omega)
    have g1 := g.1
    have g3 := g.2.2
    by_cases e : k % 2 = 0
    · have E := ch_e hk e
      rw [E] at h ⊢
      rcases c.1.left (ch V a b t k / V 1 1) b s1.1 (by omega) c.2.2.2.1.1 (by have := c.2.2.2.1; omega) with q | ⟨q1, q2, q3, q4, q5⟩
      · exact absurd q h
      · exact ⟨⟨q1, q2⟩, q3, by unfold od; rw [if_neg (by omega)]; exact q5, fun q => by omega⟩
    · have E := ch_o hk (by omega)
      rw [E] at h ⊢
      rcases c.1.right (V 2 (ch V a b t k) / V 1 1) a s2.1 (by omega) c.2.2.1.1 (by have := c.2.2.1; omega) with q | ⟨q1, q2, q3, q4, q5⟩
      · exact absurd q h
      · exact ⟨⟨q1, q2⟩, q3, by unfold od; rw [if_pos (by omega)]; exact q5, fun q => by omega⟩
/-- neighbours in the chain share a switch -/
theorem ch_sw {V : zM} {a b t : Int} (c : Cx V a b t) {k : Nat} (h : ch V a b t (k + 1) ≠ -9) : (k % 2 = 0 → ch V a b t (k + 1) / V 1 1 = ch V a b t k / V 1 1) ∧ (k % 2 = 1 → V 2 (ch V a b t (k + 1)) / V 1 1 = V 2 (ch V a b t k) / V 1 1) := by
  have hk := ch_S h
  obtain ⟨⟨i0, i1⟩, u, _, _⟩ := ch_up c k hk
  have g := c.1.gd
  have s1 := sw_lt i0 u.1 (show 0 < V 1 1 by have := g.2.1; omega)
  have s2 := sw_lt u.2.1.1 u.2.1.2.1 (show 0 < V 1 1 by have := g.2.1; omega)
  have g1 := g.1
  have g3 := g.2.2
  refine ⟨fun e => ?_, fun e => ?_⟩
  · have E := ch_e hk e
    rw [E] at h ⊢
    rcases c.1.left (ch V a b t k / V 1 1) b s1.1 (by omega) c.2.2.2.1.1 (by have := c.2.2.2.1; omega) with q | ⟨q1, q2, q3, q4, q5⟩
    · exact absurd q h
    · exact q4
  · have E := ch_o hk e
    rw [E] at h ⊢
    rcases c.1.right (V 2 (ch V a b t k) / V 1 1) a s2.1 (by omega) c.2.2.1.1 (by have := c.2.2.1; omega) with q | ⟨q1, q2, q3, q4, q5⟩
    · exact absurd q h
    · exact q4
/-- the one ahead in the chain, found by its link -/
theorem ch_pr {V : zM} {a b t : Int} (c : Cx V a b t) {k : Nat} (h : ch V a b t (k + 1) ≠ -9) : (k % 2 = 0 → V (7 + ch V a b t (k + 1) / V 1 1) a = ch V a b t k) ∧ (k % 2 = 1 → V (13 + V 2 (ch V a b t (k + 1)) / V 1 1) b = ch V a b t k) := by
  obtain ⟨_, u, d, _⟩ := ch_up c k (ch_S h)
  obtain ⟨s1, s2⟩ := ch_sw c h
  unfold od at d
  refine ⟨fun e => ?_, fun e => ?_⟩
  · rw [s1 e]
    rw [if_pos e] at d
    have := u.2.2.2.2.1
    rw [d] at this; exact this
  · rw [s2 e]
    rw [if_neg (by omega)] at d
    have := u.2.2.2.2.2
    rw [d] at this; exact this
theorem ch_ab {V : zM} {a b t : Int} (c : Cx V a b t) {k : Nat} (h : ch V a b t k ≠ -9) : a ≠ b := fun q => by
  have h0 := ch_le (Nat.zero_le k) h
  apply h0
  show V (13 + t) a = -9
  rw [q]; exact c.2.2.2.2
theorem ch_ne {V : zM} {a b t : Int} (c : Cx V a b t) : ∀ j k : Nat, j < k → ch V a b t k ≠ -9 → ch V a b t j ≠ ch V a b t k
  | 0, k, hjk, h => by
    intro q
    have ab := ch_ab c h
    obtain ⟨_, u0, d0, t0⟩ := ch_up c 0 (ch_le (Nat.zero_le k) h)
    obtain ⟨_, uk, dk, _⟩ := ch_up c k h
    unfold od at d0 dk
    by_cases e : k % 2 = 0
    · obtain ⟨m, rfl⟩ : ∃ m, k = m + 1 := ⟨k - 1, by omega⟩
      have p := (ch_pr c h).2 (by omega)
      rw [← q, t0 rfl, c.2.2.2.2] at p
      exact ch_S h p.symm
    · rw [if_neg e, ← q, d0, if_pos rfl] at dk
      exact ab dk
  | j + 1, k, hjk, h => by
    intro q
    have ab := ch_ab c h
    have hj : ch V a b t (j + 1) ≠ -9 := ch_le (by omega) h
    obtain ⟨_, uj, dj, _⟩ := ch_up c (j + 1) hj
    obtain ⟨_, uk, dk, _⟩ := ch_up c k h
    unfold od at dj dk
    obtain ⟨m, rfl⟩ : ∃ m, k = m + 1 := ⟨k - 1, by omega⟩
    have pj := ch_pr c hj
    have pk := ch_pr c h
    have same : j % 2 = m % 2 := by
      rw [q] at dj
      rw [dj] at dk
      repeat' split at dk
      all_goals first | omega | exact absurd dk ab | exact absurd dk.symm ab
    refine ch_ne c j m (by omega) (ch_S h) ?_
    by_cases e : j % 2 = 0
    · rw [← pj.1 e, ← pk.1 (by omega), q]
    · rw [← pj.2 (by omega), ← pk.2 (by omega), q]
theorem ch_20 {V : zM} {a b t : Int} (c : Cx V a b t) : ch V a b t 20 = -9 := by
  apply Classical.byContradiction
  intro h
  have := fb_holes 20 21 (fun k => (ch V a b t k).toNat) (fun i hi => by have := (ch_up c i (ch_le (by omega) h)).1; omega) (fun i j hij hj => by
    have n1 := ch_ne c i j hij (ch_le (by omega) h)
    have b1 := (ch_up c i (ch_le (by omega) h)).1
    have b2 := (ch_up c j (ch_le (by omega) h)).1
    omega)
  omega
def cln (V : zM) (a b t : Int) : Nat → Nat → Nat
  | 0, k => k
  | f + 1, k => if ch V a b t k = -9 then k else cln V a b t f (k + 1)
/-- how many calls a chain moves -/
def clen (V : zM) (a b t : Int) : Nat := cln V a b t 20 0
theorem cln_s {V : zM} {a b t : Int} (c : Cx V a b t) : ∀ f k : Nat, k + f = 20 → (∀ j, j < k → ch V a b t j ≠ -9) → cln V a b t f k ≤ 20 ∧ ch V a b t (cln V a b t f k) = -9 ∧ ∀ j, j < cln V a b t f k → ch V a b t j ≠ -9
  | 0, k, e, h => by
    have : k = 20 := by omega
    subst this
    exact ⟨Nat.le_refl _, ch_20 c, h⟩
  | f + 1, k, e, h => by
    simp only [cln]
    by_cases q : ch V a b t k = -9
    · rw [if_pos q]; exact ⟨by omega, q, h⟩
    · rw [if_neg q]
      refine cln_s c f (k + 1) (by omega) (fun j hj => ?_)
      by_cases r : j = k
      · rw [r]; exact q
      · exact h j (by omega)
theorem clen_s {V : zM} {a b t : Int} (c : Cx V a b t) : clen V a b t ≤ 20 ∧ ch V a b t (clen V a b t) = -9 ∧ ∀ j, j < clen V a b t → ch V a b t j ≠ -9 := cln_s c 20 0 rfl (fun j hj => by omega)
end T53
