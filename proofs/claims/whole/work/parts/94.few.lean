section T54
variable {G : zG} {n : Nat} {μ ν κ V : zM}
/-- the class's part as a virtual memory has it -/
def Rc (V κ : zM) : Prop := (κ 1 0 = V 1 0 ∧ κ 1 1 = V 1 1 ∧ κ 1 2 = V 1 2) ∧ (∀ s a, 0 ≤ s → s < 5 → 0 ≤ a → a < 7 → κ (7 + s) a = V (7 + s) a ∧ κ (13 + s) a = V (13 + s) a) ∧ (∀ i, 0 ≤ i → i < 20 → V 2 i ≠ -9 → κ 2 i = V 2 i ∧ κ 4 i = V 4 i)
theorem c6_sw (hn : 154 ≤ n) {e x : Int} (he : κ 1 1 = e) (e1 : 1 ≤ e) (e4 : e ≤ 4) (h0 : 0 ≤ x) (h1 : x < 1000) {K : Int → zM → Prop} (hK : K (x / e) κ) : mX6_switchOf G n x κ K := by
  refine eX6_switchOf (by omega) ?_
  rw [he]
  simp (disch := omega) only [wr_of]
  exact ⟨fun z => by omega, fun _ => ⟨by omega, by rw [zdiv_of h0 (by omega) (by omega) (by omega)]; exact hK⟩⟩
theorem c6_follow (hn : 154 ≤ n) {a b t : Int} (c : Cx V a b t) (r : Rc V κ) {K : Int → zM → Prop} (hK : ∀ ν : zM, (∀ k : Nat, k < clen V a b t → ν 18 k = ch V a b t k) → (∀ a j, a ≠ 18 → ν a j = κ a j) → K (clen V a b t) ν) : mX6_followChain G n t a b κ K := by
  have g := c.1.gd
  have gN := g.nn
  have g1 := g.1
  have g2 := g.2.1
  have g3 := g.2.2
  have ct := c.2.1
  have ca := c.2.2.1
  have cb := c.2.2.2.1
  obtain ⟨l1, l2, l3⟩ := clen_s c
  have key : ∀ (f k : Nat) (ν : zM), k + f = clen V a b t → (∀ j : Nat, j < k → ν 18 j = ch V a b t j) → (∀ a j, a ≠ 18 → ν a j = κ a j) → pX6_followChain G n K 16 [some (Rv G 1), none, some (Iv a), some (Iv b), some (Iv k), some (Iv (ch V a b t k)), some (Iv k), none] [] ν := by
    intro f
    induction f with
    | zero =>
      intro k ν ek h1 hf
      have : k = clen V a b t := by omega
      subst this
      refine bX6_followChain_16 (by omega) ?_
      rw [l2]
      exact ⟨fun _ => hK ν h1 hf, fun _ => ⟨fun _ => hK ν h1 hf, fun z => absurd rfl z⟩⟩
    | succ f ih =>
      intro k ν ek h1 hf
      have hk := l3 k (by omega)
      obtain ⟨⟨i0, i1⟩, u, d, _⟩ := ch_up c k hk
      have s1 := sw_lt i0 u.1 (show 0 < V 1 1 by omega)
      have s2 := sw_lt u.2.1.1 u.2.1.2.1 (show 0 < V 1 1 by omega)
      refine bX6_followChain_16 (by omega) ?_
      rw [show (6 : Int) + 1 = 7 from rfl, show (12 : Int) + 1 = 13 from rfl, zrem_of (by omega) (by omega) (by omega) (by omega)]
      simp (disch := omega) only [wr_of]
      refine ⟨fun z => by omega, fun _ => ⟨fun z => by omega, fun _ => ⟨by omega, fun μ4 e4 => ?_⟩⟩⟩
      have f4 : ∀ x j, x ≠ 18 → μ4 x j = κ x j := fun x j q => by rw [e4, zu_na q]; exact hf x j q
      have h4 : ∀ j : Nat, j < k + 1 → μ4 18 j = ch V a b t j := fun j hj => by
        rw [e4]; unfold zu
        by_cases q : j = k
        · rw [if_pos ⟨rfl, by omega⟩, q]
        · rw [if_neg (by omega)]; exact h1 j (by omega)
      have o4 : μ4 2 (ch V a b t k) = V 2 (ch V a b t k) := by rw [f4 _ _ (by decide)]; exact (r.2.2 _ i0 i1 (by have := u.2.1; omega)).1
      have w11 : μ4 1 1 = V 1 1 := by rw [f4 _ _ (by decide)]; exact r.1.2.1
      refine ⟨fun z => ⟨fun _ => ⟨by omega, ?_⟩, fun w => absurd trivial w⟩, fun z => ⟨fun w => absurd w (by decide), fun _ => c6_sw (e := V 1 1) hn w11 g2.2.1 g2.2.2 i0 (by omega) ?_⟩⟩
      · rw [o4]
        refine c6_sw (e := V 1 1) hn w11 g2.2.1 g2.2.2 u.2.1.1 (by have := u.2.1; omega) ?_
        simp (disch := omega) only [wr_of]
        refine ⟨by omega, by omega, fun v12 e12 => ?_⟩
        have E : v12 = ch V a b t (k + 1) := by
          rw [e12, ch_o hk (by omega), f4 _ _ (by omega)]
          exact (r.2.1 _ _ s2.1 (by omega) ca.1 (by omega)).2
        rw [E]
        exact ih (k + 1) μ4 (by omega) h4 f4
      · simp (disch := omega) only [wr_of]
        refine ⟨by omega, by omega, fun v12 e12 => ?_⟩
        have E : v12 = ch V a b t (k + 1) := by
          rw [e12, ch_e hk (by omega), f4 _ _ (by omega)]
          exact (r.2.1 _ _ s1.1 (by omega) cb.1 (by omega)).1
        rw [E]
        exact ih (k + 1) μ4 (by omega) h4 f4
  refine eX6_followChain (by omega) ?_
  rw [show (12 : Int) + 1 = 13 from rfl]
  simp (disch := omega) only [wr_of]
  refine ⟨by omega, by omega, fun v3 e3 => ?_⟩
  rw [(r.2.1 t a ct.1 (by omega) ca.1 (by omega)).2] at e3
  rw [show v3 = ch V a b t 0 from e3]
  exact key (clen V a b t) 0 κ (by omega) (fun j hj => by omega) (fun _ _ _ => rfl)
theorem c8_chain (hn : 154 ≤ n) {a b t : Int} (c : Cx V a b t) (s : Sm3 V ν) {K : Int → zM → Prop} (hK : ∀ ν' : zM, (∀ k : Nat, k < clen V a b t → ν' 130 k = ch V a b t k) → (∀ a j, a ≠ 130 → ν' a j = ν a j) → K (clen V a b t) ν') : mX8_chainOf G n t a b ν K := by
  have g := c.1.gd
  have gN := g.nn
  have g1 := g.1
  have g2 := g.2.1
  have g3 := g.2.2
  have ct := c.2.1
  have ca := c.2.2.1
  have cb := c.2.2.2.1
  obtain ⟨l1, l2, l3⟩ := clen_s c
  have key : ∀ (f k : Nat) (ν' : zM), k + f = clen V a b t → (∀ j : Nat, j < k → ν' 130 j = ch V a b t j) → (∀ a j, a ≠ 130 → ν' a j = ν a j) → pX8_chainOf G n K 18 [some (Rv G 127), none, some (Iv a), some (Iv b), some (Iv k), some (Iv (ch V a b t k))] [] ν' := by
    intro f
    induction f with
    | zero =>
      intro k ν' ek h1 hf
      have : k = clen V a b t := by omega
      subst this
      refine bX8_chainOf_18 hn ?_
      rw [l2]
      exact ⟨fun _ => hK ν' h1 hf, fun z => absurd rfl z⟩
    | succ f ih =>
      intro k ν' ek h1 hf
      have hk := l3 k (by omega)
      obtain ⟨⟨i0, i1⟩, u, d, _⟩ := ch_up c k hk
      have s1 := sw_lt i0 u.1 (show 0 < V 1 1 by omega)
      have s2 := sw_lt u.2.1.1 u.2.1.2.1 (show 0 < V 1 1 by omega)
      refine bX8_chainOf_18 hn ?_
      rw [zrem_of (by omega) (by omega) (by omega) (by omega)]
      simp (disch := omega) only [wr_of]
      refine ⟨fun z => by omega, fun _ => ⟨by omega, fun μ3 e3 => ?_⟩⟩
      have f3 : ∀ x j, x ≠ 130 → μ3 x j = ν x j := fun x j q => by rw [e3, zu_na q]; exact hf x j q
      have h3 : ∀ j : Nat, j < k + 1 → μ3 130 j = ch V a b t j := fun j hj => by
        rw [e3]; unfold zu
        by_cases q : j = k
        · rw [if_pos ⟨rfl, by omega⟩, q]
        · rw [if_neg (by omega)]; exact h1 j (by omega)
      have m3 : Sm3 V μ3 := ⟨by rw [f3 _ _ (by decide), f3 _ _ (by decide), f3 _ _ (by decide)]; exact s.1, fun j => by rw [f3 _ _ (by decide)]; exact s.2.1 j, fun j => by rw [f3 _ _ (by decide)]; exact s.2.2 j⟩
      have w3 : μ3 127 3 = V 1 1 := by rw [m3.1.2.1]; exact g2.1.symm
      have o3 : μ3 128 (ch V a b t k) - 1 = V 2 (ch V a b t k) := by rw [m3.2.1]; have := u.2.1; omega
      rw [w3]
      simp (disch := omega) only [wr_of]
      refine ⟨fun z => ⟨by omega, by omega, ?_⟩, fun z => ⟨by omega, ?_⟩⟩
      · rw [o3, zdiv_of u.2.1.1 (by have := u.2.1; omega) (by omega) (by omega)]
        refine c8_right3 hn m3 c.1 s2.1 s2.2 ca.1 (by omega) ?_
        rw [← ch_o hk (by omega)]
        exact ih (k + 1) μ3 (by omega) h3 f3
      · rw [zdiv_of i0 (by omega) (by omega) (by omega)]
        refine c8_left3 hn m3 c.1 s1.1 s1.2 cb.1 (by omega) ?_
        rw [← ch_e hk (by omega)]
        exact ih (k + 1) μ3 (by omega) h3 f3
  refine eX8_chainOf hn ?_
  simp (disch := omega) only [wr_of]
  refine ⟨fun z => c8_right3 hn s c.1 ct.1 ct.2 ca.1 (by omega) (key (clen V a b t) 0 ν (by omega) (fun j hj => by omega) (fun _ _ _ => rfl)), fun z => ?_⟩
  have e : ch V a b t 0 = -9 := by
    show V (13 + t) a = -9
    rw [z]; exact c.2.2.2.2
  have L0 : clen V a b t = 0 := by
    apply Classical.byContradiction
    intro q
    exact l3 0 (by omega) e
  have := hK ν (fun k hk => by omega) (fun _ _ _ => rfl)
  rw [L0] at this
  exact this
/-- the best chain so far, with one more pair of middle switches -/
def stp (V : zM) (s t a b : Int) (z : Int × Int × Int) : Int × Int × Int := if V (7 + s) a = -9 ∧ V (13 + t) b = -9 then (if z.1 = -9 ∨ (clen V a b t : Int) < z.1 then ((clen V a b t : Int), a, b) else z) else z
def fB (V : zM) (s t a : Int) : Nat → Int → Int × Int × Int → Int × Int × Int
  | 0, _, z => z
  | g + 1, b, z => fB V s t a g (b + 1) (stp V s t a b z)
def fA (V : zM) (s t : Int) (M : Nat) : Nat → Int → Int × Int × Int → Int × Int × Int
  | 0, _, z => z
  | g + 1, a, z => fA V s t M g (a + 1) (fB V s t a M 0 z)
def few (V : zM) (s t : Int) (A B : Int) : Int × Int × Int := fA V s t (V 1 2).toNat (V 1 2).toNat 0 (-9, A, B)
/-- what holds of the best chain -/
def Pz (V : zM) (s t : Int) (z : Int × Int × Int) : Prop := z.1 = -9 ∨ (Cx V z.2.1 z.2.2 t ∧ V (7 + s) z.2.1 = -9 ∧ z.1 = clen V z.2.1 z.2.2 t)
def Rz (z z' : Int × Int × Int) : Prop := z.1 = z'.1 ∧ (z.1 ≠ -9 → z = z')
theorem stp_P (h : I1 V) {s t a b : Int} {z : Int × Int × Int} (ht : 0 ≤ t ∧ t < V 1 0) (ha : 0 ≤ a ∧ a < V 1 2) (hb : 0 ≤ b ∧ b < V 1 2) (hz : Pz V s t z) : Pz V s t (stp V s t a b z) := by
  unfold stp
  split
  · rename_i q
    split
    · exact Or.inr ⟨⟨h, ht, ha, hb, q.2⟩, q.1, rfl⟩
    · exact hz
  · exact hz
theorem fB_P (h : I1 V) {s t a : Int} (ht : 0 ≤ t ∧ t < V 1 0) (ha : 0 ≤ a ∧ a < V 1 2) : ∀ (g : Nat) (b : Int) (z : Int × Int × Int), 0 ≤ b → b + g ≤ V 1 2 → Pz V s t z → Pz V s t (fB V s t a g b z)
  | 0, _, _, _, _, hz => hz
  | g + 1, b, z, b0, hb, hz => fB_P h ht ha g (b + 1) _ (by omega) (by omega) (stp_P h ht ha ⟨b0, by omega⟩ hz)
theorem fA_P (h : I1 V) {s t : Int} (ht : 0 ≤ t ∧ t < V 1 0) : ∀ (g : Nat) (a : Int) (z : Int × Int × Int), 0 ≤ a → a + g ≤ V 1 2 → Pz V s t z → Pz V s t (fA V s t (V 1 2).toNat g a z)
  | 0, _, _, _, _, hz => hz
  | g + 1, a, z, a0, ha, hz => fA_P h ht g (a + 1) _ (by omega) (by omega) (fB_P h ht ⟨a0, by omega⟩ _ 0 z (by decide) (by have := h.gd.2.2; omega) hz)
theorem few_P (h : I1 V) {s t A B : Int} (ht : 0 ≤ t ∧ t < V 1 0) : Pz V s t (few V s t A B) := fA_P h ht _ 0 _ (by decide) (by have := h.gd.2.2; omega) (Or.inl rfl)
theorem Pz.r {s t : Int} {z : Int × Int × Int} (h : Pz V s t z) : -9 ≤ z.1 ∧ z.1 ≤ 20 := by
  rcases h with q | ⟨c, _, q⟩
  · omega
  · have := (clen_s c).1; omega
theorem stp_R {s t a b : Int} {z z' : Int × Int × Int} (h : Rz z z') : Rz (stp V s t a b z) (stp V s t a b z') := by
  unfold stp
  split
  · rw [h.1]
    split
    · exact ⟨rfl, fun _ => rfl⟩
    · exact h
  · exact h
theorem fB_R {s t a : Int} : ∀ (g : Nat) (b : Int) (z z' : Int × Int × Int), Rz z z' → Rz (fB V s t a g b z) (fB V s t a g b z')
  | 0, _, _, _, h => h
  | g + 1, b, z, z', h => fB_R g (b + 1) _ _ (stp_R h)
theorem fA_R {s t : Int} {M : Nat} : ∀ (g : Nat) (a : Int) (z z' : Int × Int × Int), Rz z z' → Rz (fA V s t M g a z) (fA V s t M g a z')
  | 0, _, _, _, h => h
  | g + 1, a, z, z', h => fA_R g (a + 1) _ _ (fB_R M 0 z z' h)
theorem few_R {s t A B A' B' : Int} : Rz (few V s t A B) (few V s t A' B') := fA_R _ 0 _ _ ⟨rfl, fun q => absurd rfl q⟩
theorem fB_skip {s t a : Int} (h : V (7 + s) a ≠ -9) : ∀ (g : Nat) (b : Int) (z : Int × Int × Int), fB V s t a g b z = z
  | 0, _, _ => rfl
  | g + 1, b, z => by
    show fB V s t a g (b + 1) (stp V s t a b z) = z
    rw [fB_skip h g (b + 1)]
    unfold stp
    rw [if_neg (fun q => h q.1)]
end T54
