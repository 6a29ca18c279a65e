section T69
variable {G : zG} {n : Nat} {μ ν κ : zM}
def up (c : Int → Int) (d v : Int) : Int → Int := fun x => if x = d then v else c x
/-- at depth d a row may have v -/
def okr (P : Int) (T : Int → Int → Int) (d v : Int) (c : Int → Int) : Bool := decide (v = P ∨ (0 < T d v ∧ us c v d.toNat = false))
def rvs (f : Int → List (Int → Int)) : Nat → Int → List (Int → Int)
  | 0, _ => []
  | w + 1, v => f v ++ rvs f w (v + 1)
/-- all rows that go on from c, in their order -/
def rws (P : Int) (T : Int → Int → Int) : Nat → Int → (Int → Int) → List (Int → Int)
  | 0, _, c => [c]
  | g + 1, d, c => rvs (fun v => if okr P T d v c = true then rws P T g (d + 1) (up c d v) else []) (P + 1).toNat 0
abbrev rfn (P : Int) (T : Int → Int → Int) (g : Nat) (d : Int) (c : Int → Int) : Int → List (Int → Int) := fun v => if okr P T d v c = true then rws P T g (d + 1) (up c d v) else []
theorem rfn_t {P : Int} {T : Int → Int → Int} {g : Nat} {d v : Int} {c : Int → Int} (h : okr P T d v c = true) : rfn P T g d c v = rws P T g (d + 1) (up c d v) := if_pos h
theorem rfn_f {P : Int} {T : Int → Int → Int} {g : Nat} {d v : Int} {c : Int → Int} (h : okr P T d v c = false) : rfn P T g d c v = [] := if_neg (by rw [h]; decide)
theorem c8_isFree (hn : 154 ≤ n) {P d v : Int} {c : Int → Int} (hp : 1 ≤ P ∧ P ≤ 5) (d0 : 0 ≤ d) (d1 : d < P) (v0 : 0 ≤ v) (v1 : v ≤ P) (hv : κ 150 d = v) (hc : ∀ x, 0 ≤ x → x < d → κ 150 x = c x ∧ 0 ≤ c x ∧ c x ≤ P) {K : Int → zM → Prop}
    (k1 : us c v d.toNat = false → K 1 κ) (k0 : us c v d.toNat = true → K 0 κ) : mX8_isFree G n d κ K := by
  have : ∀ (g : Nat) (x : Int), 0 ≤ x → x + g = d → (∀ y, 0 ≤ y → y < x → c y ≠ v) → pX8_isFree G n K 2 [some (Rv G 127), some (Iv d), some (Iv x)] [] κ := by
    intro g
    induction g with
    | zero =>
      intro x x0 ex hy
      refine bX8_isFree_2 (by omega) ?_
      simp (disch := omega) only [wr_of]
      exact ⟨fun _ => k1 (us_mk (fun y a b => hy y a (by omega))), fun z => by omega⟩
    | succ g ih =>
      intro x x0 ex hy
      have cx := hc x x0 (by omega)
      refine bX8_isFree_2 (by omega) ?_
      simp (disch := omega) only [wr_of]
      rw [cx.1, hv]
      try simp (disch := omega) only [wr_of]
      refine ⟨fun z => by omega, fun _ => ⟨by omega, by omega, fun z => ih (x + 1) (by omega) (by omega) (fun y a b => ?_), fun z => k0 ?_⟩⟩
      · by_cases e : y = x
        · rw [e]; exact z
        · exact hy y a (by omega)
      · cases hu : us c v d.toNat with
        | true => rfl
        | false => exact absurd z (us_f hu x x0 (by omega))
  exact eX8_isFree (by omega) (this d.toNat 0 (by decide) (by omega) (fun y a b => by omega))
/-- what the search may write -/
def Gf (κ κ' : zM) : Prop := ∀ a j, a ≠ 150 → ¬ (a = 127 ∧ j = 38) → κ' a j = κ a j
theorem Gf.t {κ κ' κ'' : zM} (h : Gf κ κ') (h2 : Gf κ' κ'') : Gf κ κ'' := fun a j w1 w2 => (h2 a j w1 w2).trans (h a j w1 w2)
/-- one step of the search -/
theorem c8_goStep (hn : 154 ≤ n) {P d v t : Int} {c : Int → Int} {T : Int → Int → Int} (hp : 1 ≤ P ∧ P ≤ 5) (ht : 0 ≤ t ∧ t < n ∧ zk t = 0 ∧ (zn t : Int) = 25 ∧ t ≠ 150 ∧ t ≠ 127) (h30 : κ 127 30 = P) (h38 : κ 127 38 = d) (d0 : 0 ≤ d) (d1 : d < P) (v0 : 0 ≤ v) (v1 : v ≤ P + 1) (hv : κ 150 d = v - 1)
    (hc : ∀ x, 0 ≤ x → x < d → κ 150 x = c x ∧ 0 ≤ c x ∧ c x ≤ P) (hT : ∀ i o, 0 ≤ i → i < P → 0 ≤ o → o < P → κ t (5 * i + o) = T i o ∧ 0 ≤ T i o ∧ T i o ≤ 1000000) {K : Int → zM → Prop}
    (kout : v = P + 1 → ∀ κ' : zM, κ' 127 38 = d - 1 → (∀ x, x ≠ d → κ' 150 x = κ 150 x) → Gf κ κ' → pX8_goOn G n K 0 [some (Rv G 127), some (Rv G t), none] [] κ')
    (kno : v ≤ P → okr P T d v c = false → ∀ κ' : zM, κ' 127 38 = d → κ' 150 d = v → (∀ x, x ≠ d → κ' 150 x = κ 150 x) → Gf κ κ' → pX8_goOn G n K 0 [some (Rv G 127), some (Rv G t), none] [] κ')
    (kdown : v ≤ P → okr P T d v c = true → d ≠ P - 1 → ∀ κ' : zM, κ' 127 38 = d + 1 → κ' 150 d = v → κ' 150 (d + 1) = -1 → (∀ x, x ≠ d → x ≠ d + 1 → κ' 150 x = κ 150 x) → Gf κ κ' → pX8_goOn G n K 0 [some (Rv G 127), some (Rv G t), none] [] κ')
    (krow : v ≤ P → okr P T d v c = true → d = P - 1 → ∀ κ' : zM, κ' 127 38 = d → κ' 150 d = v → (∀ x, x ≠ d → κ' 150 x = κ 150 x) → Gf κ κ' → K 1 κ') :
    pX8_goOn G n K 0 [some (Rv G 127), some (Rv G t), none] [] κ := by
  refine bX8_goOn_0 (by omega) ?_
  rw [h38]
  simp (disch := omega) only [wr_of]
  rw [hv]
  refine ⟨fun z => by omega, fun _ => ⟨by omega, by omega, fun μ4 e4 => ?_⟩⟩
  have w38 : μ4 127 38 = d := by rw [e4, zu_na (by decide)]; exact h38
  have w30 : μ4 127 30 = P := by rw [e4, zu_na (by decide)]; exact h30
  have wd : μ4 150 d = v := by rw [e4]; unfold zu; rw [if_pos ⟨rfl, rfl⟩]; omega
  have wx : ∀ x, x ≠ d → μ4 150 x = κ 150 x := fun x w => by rw [e4]; unfold zu; rw [if_neg (fun u => w u.2)]
  have wf : Gf κ μ4 := fun a j w1 w2 => by rw [e4, zu_na w1]
  have down : v ≤ P → okr P T d v c = true → ¬ d = P - 1 → ∀ μ11 : zM, μ11 = zu μ4 127 38 (d + 1) → (0 ≤ wr (μ11 127 38) ∧ wr (μ11 127 38) < 5) ∧ ∀ μ13 : zM, μ13 = zu μ11 150 (wr (μ11 127 38)) (-1) → pX8_goOn G n K 0 [some (Rv G 127), some (Rv G t), none] [] μ13 := fun a1 a2 a3 μ11 e11 => by
    have y38 : μ11 127 38 = d + 1 := by rw [e11]; unfold zu; rw [if_pos ⟨rfl, rfl⟩]
    rw [y38]
    simp (disch := omega) only [wr_of]
    have n0 : ∀ x, μ11 150 x = μ4 150 x := fun x => by rw [e11, zu_na (by decide)]
    refine ⟨by omega, fun μ13 e13 => kdown a1 a2 a3 μ13 ?_ ?_ ?_ (fun x x1 x2 => ?_) (fun a j w1 w2 => ?_)⟩
    · rw [e13, zu_na (by decide)]; exact y38
    · rw [e13]; unfold zu; rw [if_neg (by omega), n0]; exact wd
    · rw [e13]; unfold zu; rw [if_pos ⟨rfl, rfl⟩]
    · rw [e13]; unfold zu; rw [if_neg (by omega), n0]; exact wx x x1
    · rw [e13, zu_na w1, e11]; unfold zu; rw [if_neg w2]; exact wf a j w1 w2
  rw [w38, w30]
  simp (disch := omega) only [wr_of]
  rw [wd]
  try simp (disch := omega) only [wr_of]
  refine ⟨by omega, fun z => ⟨by omega, fun z2 => ?_, fun z2 => ?_⟩, fun z μ35 e35 => kout (by omega) μ35 ?_ (fun x xd => ?_) (fun a j w1 w2 => ?_)⟩
  · have ok : okr P T d v c = true := decide_eq_true (Or.inl z2)
    exact ⟨fun _ => ⟨fun z3 => down z ok z3, fun z3 => krow z ok z3 μ4 w38 wd wx wf⟩, fun w => absurd w (by decide)⟩
  · have tt := hT d v d0 d1 v0 (by omega)
    have w5 : μ4 t (5 * d + v) = T d v := by rw [wf t _ ht.2.2.2.2.1 (fun w => ht.2.2.2.2.2 w.1)]; exact tt.1
    unfold zin
    rw [ht.2.2.2.1]
    simp (disch := omega) only [wr_of]
    rw [w5]
    try simp (disch := omega) only [wr_of]
    refine ⟨by omega, ⟨⟨ht.1, ht.2.1, ht.2.2.1⟩, by omega, by omega⟩, fun z3 => ⟨fun w => absurd trivial w, fun _ => kno z (decide_eq_false (fun w => by rcases w with w | w; exact z2 w; have := w.1; omega)) μ4 w38 wd wx wf⟩, fun z3 => c8_isFree hn hp d0 d1 v0 z wd (fun x x0 x1 => ⟨by rw [wx x (by omega)]; exact (hc x x0 x1).1, (hc x x0 x1).2⟩) (fun u => ?_) (fun u => ?_)⟩
    · have ok : okr P T d v c = true := decide_eq_true (Or.inr ⟨by omega, u⟩)
      rw [w38, w30]
      simp (disch := omega) only [wr_of]
      exact ⟨fun w => absurd w (by decide), fun _ => ⟨fun _ => ⟨fun z4 => down z ok z4, fun z4 => krow z ok z4 μ4 w38 wd wx wf⟩, fun w => absurd w (by decide)⟩⟩
    · have no : okr P T d v c = false := decide_eq_false (fun w => by
        rcases w with w | w
        · exact z2 w
        · rw [u] at w; exact absurd w.2 (by decide))
      exact ⟨fun _ => ⟨fun w => absurd trivial w, fun _ => kno z no μ4 w38 wd wx wf⟩, fun w => absurd rfl w⟩
  · rw [e35]; unfold zu; rw [if_pos ⟨rfl, rfl⟩]
  · rw [e35, zu_na (by decide)]; exact wx x xd
  · rw [e35]; unfold zu; rw [if_neg w2]; exact wf a j w1 w2
/-- the search goes through all rows -/
theorem go_all (hn : 154 ≤ n) {P t : Int} {T : Int → Int → Int} (hp : 1 ≤ P ∧ P ≤ 5) (ht : 0 ≤ t ∧ t < n ∧ zk t = 0 ∧ (zn t : Int) = 25 ∧ t ≠ 150 ∧ t ≠ 127) {L : List (Int → Int)} {I : List (Int → Int) → zM → Prop} {Kb : List (Int → Int) → Int → zM → Prop}
    (hI : ∀ s κ, I s κ → κ 127 30 = P ∧ ∀ i o, 0 ≤ i → i < P → 0 ≤ o → o < P → κ t (5 * i + o) = T i o ∧ 0 ≤ T i o ∧ T i o ≤ 1000000)
    (hcl : ∀ s κ κ', I s κ → Gf κ κ' → I s κ')
    (hrow : ∀ s c r κ, L = s ++ c :: r → κ 127 38 = P - 1 → (∀ x, 0 ≤ x → x < P → κ 150 x = c x) → I s κ → (∀ κ' : zM, κ' 127 38 = P - 1 → (∀ x, 0 ≤ x → x < P → κ' 150 x = c x) → I (s ++ [c]) κ' → pX8_goOn G n (Kb (s ++ [c])) 0 [some (Rv G 127), some (Rv G t), none] [] κ') → Kb s 1 κ) :
    ∀ (g : Nat) (d : Int) (c : Int → Int) (w : Nat) (v : Int) (s r : List (Int → Int)) (κ : zM), 0 ≤ d → d + g + 1 = P → 0 ≤ v → v + w = P + 1 → (∀ x, 0 ≤ x → x < d → 0 ≤ c x ∧ c x ≤ P) → L = s ++ rvs (rfn P T g d c) w v ++ r → κ 127 38 = d → κ 150 d = v - 1 → (∀ x, 0 ≤ x → x < d → κ 150 x = c x) → I s κ →
      (∀ κ' : zM, κ' 127 38 = d - 1 → (∀ x, 0 ≤ x → x < d → κ' 150 x = c x) → I (s ++ rvs (rfn P T g d c) w v) κ' → pX8_goOn G n (Kb (s ++ rvs (rfn P T g d c) w v)) 0 [some (Rv G 127), some (Rv G t), none] [] κ') → pX8_goOn G n (Kb s) 0 [some (Rv G 127), some (Rv G t), none] [] κ := by
  intro g
  induction g with
  | zero =>
    intro d c w
    induction w with
    | zero =>
      intro v s r κ d0 dg v0 vw hc hL h38 h150 hx hi hafter
      refine c8_goStep (c := c) (T := T) (v := v) hn hp ht (hI s κ hi).1 h38 d0 (by omega) v0 (by omega) h150 (fun x x0 x1 => ⟨hx x x0 x1, hc x x0 x1⟩) (hI s κ hi).2 (fun _ κ' k38 kx kf => ?_) (fun z => by omega) (fun z => by omega) (fun z => by omega)
      have := hafter κ' k38 (fun x x0 x1 => by rw [kx x (by omega)]; exact hx x x0 x1)
      simp only [rvs, List.append_nil] at this
      exact this (hcl s κ κ' hi kf)
    | succ w ihw =>
      intro v s r κ d0 dg v0 vw hc hL h38 h150 hx hi hafter
      refine c8_goStep (c := c) (T := T) (v := v) hn hp ht (hI s κ hi).1 h38 d0 (by omega) v0 (by omega) h150 (fun x x0 x1 => ⟨hx x x0 x1, hc x x0 x1⟩) (hI s κ hi).2 (fun z => by omega) (fun z ok κ' k38 kv kx kf => ?_) (fun z ok zd => by omega) (fun z ok zd κ' k38 kv kx kf => ?_)
      · have er : rvs (rfn P T 0 d c) (w + 1) v = rvs (rfn P T 0 d c) w (v + 1) := by
          simp only [rvs]; rw [rfn_f ok]; rfl
        rw [er] at hL hafter
        exact ihw (v + 1) s r κ' d0 dg (by omega) (by omega) hc hL k38 (by omega) (fun x x0 x1 => by rw [kx x (by omega)]; exact hx x x0 x1) (hcl s κ κ' hi kf) hafter
      · have er : rvs (rfn P T 0 d c) (w + 1) v = up c d v :: rvs (rfn P T 0 d c) w (v + 1) := by
          simp only [rvs]; rw [rfn_t ok]; rfl
        rw [er] at hL hafter
        refine hrow s (up c d v) (rvs (rfn P T 0 d c) w (v + 1) ++ r) κ' (by rw [hL]; simp) (by omega) (fun x x0 x1 => ?_) (hcl s κ κ' hi kf) (fun κ2 q38 q150 qi => ?_)
        · unfold up
          by_cases e : x = d
          · rw [if_pos e, e]; exact kv
          · rw [if_neg e, kx x e]; exact hx x x0 (by omega)
        · refine ihw (v + 1) (s ++ [up c d v]) r κ2 d0 dg (by omega) (by omega) hc (by rw [hL]; simp) (by omega) ?_ (fun x x0 x1 => ?_) qi (fun κ3 => ?_)
          · rw [q150 d d0 (by omega)]; unfold up; rw [if_pos rfl]; omega
          · rw [q150 x x0 (by omega)]; unfold up; rw [if_neg (by omega)]
          · have := hafter κ3
            simp only [List.append_assoc, List.singleton_append]
            exact this
  | succ g ihg =>
    intro d c w
    induction w with
    | zero =>
      intro v s r κ d0 dg v0 vw hc hL h38 h150 hx hi hafter
      refine c8_goStep (c := c) (T := T) (v := v) hn hp ht (hI s κ hi).1 h38 d0 (by omega) v0 (by omega) h150 (fun x x0 x1 => ⟨hx x x0 x1, hc x x0 x1⟩) (hI s κ hi).2 (fun _ κ' k38 kx kf => ?_) (fun z => by omega) (fun z => by omega) (fun z => by omega)
      have := hafter κ' k38 (fun x x0 x1 => by rw [kx x (by omega)]; exact hx x x0 x1)
      simp only [rvs, List.append_nil] at this
      exact this (hcl s κ κ' hi kf)
    | succ w ihw =>
      intro v s r κ d0 dg v0 vw hc hL h38 h150 hx hi hafter
      refine c8_goStep (c := c) (T := T) (v := v) hn hp ht (hI s κ hi).1 h38 d0 (by omega) v0 (by omega) h150 (fun x x0 x1 => ⟨hx x x0 x1, hc x x0 x1⟩) (hI s κ hi).2 (fun z => by omega) (fun z ok κ' k38 kv kx kf => ?_) (fun z ok zd κ' k38 kv kv2 kx kf => ?_) (fun z ok zd => by omega)
      · have er : rvs (rfn P T (g + 1) d c) (w + 1) v = rvs (rfn P T (g + 1) d c) w (v + 1) := by
          simp only [rvs]; rw [rfn_f ok]; rfl
        rw [er] at hL hafter
        exact ihw (v + 1) s r κ' d0 dg (by omega) (by omega) hc hL k38 (by omega) (fun x x0 x1 => by rw [kx x (by omega)]; exact hx x x0 x1) (hcl s κ κ' hi kf) hafter
      · have er : rvs (rfn P T (g + 1) d c) (w + 1) v = rvs (rfn P T g (d + 1) (up c d v)) (P + 1).toNat 0 ++ rvs (rfn P T (g + 1) d c) w (v + 1) := by
          simp only [rvs]; rw [rfn_t ok]; rfl
        rw [er] at hL hafter
        refine ihg (d + 1) (up c d v) (P + 1).toNat 0 s (rvs (rfn P T (g + 1) d c) w (v + 1) ++ r) κ' (by omega) (by omega) (by decide) (by omega) (fun x x0 x1 => ?_) (by rw [hL]; simp) k38 kv2 (fun x x0 x1 => ?_) (hcl s κ κ' hi kf) (fun κ2 q38 q150 qi => ?_)
        · unfold up
          by_cases e : x = d
          · rw [if_pos e]; omega
          · rw [if_neg e]; exact hc x x0 (by omega)
        · unfold up
          by_cases e : x = d
          · rw [if_pos e, e]; exact kv
          · rw [if_neg e, kx x e (by omega)]; exact hx x x0 (by omega)
        · refine ihw (v + 1) _ r κ2 d0 dg (by omega) (by omega) hc (by rw [hL]; simp) (by omega) ?_ (fun x x0 x1 => ?_) qi (fun κ3 => ?_)
          · rw [q150 d d0 (by omega)]; unfold up; rw [if_pos rfl]; omega
          · rw [q150 x x0 (by omega)]; unfold up; rw [if_neg (by omega)]
          · have := hafter κ3
            rw [List.append_assoc]
            exact this
end T69
