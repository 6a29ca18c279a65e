section T67
variable {G : zG} {n : Nat} {μ ν κ : zM}
/-- the first around, from p on -/
def fa (c : Int → Bool) (P p : Int) : Nat → Int → Int
  | 0, _ => -9
  | g + 1, d => if c ((p + d) % P) = true then (p + d) % P else fa c P p g (d + 1)
theorem fa_r {c : Int → Bool} {P p : Int} (hp : 1 ≤ P) : ∀ (g : Nat) (d : Int), fa c P p g d = -9 ∨ (0 ≤ fa c P p g d ∧ fa c P p g d < P ∧ c (fa c P p g d) = true)
  | 0, _ => Or.inl rfl
  | g + 1, d => by
    simp only [fa]
    split
    · rename_i h
      exact Or.inr ⟨(md_r hp).1, (md_r hp).2, h⟩
    · exact fa_r hp g (d + 1)
theorem fa_n {c : Int → Bool} {P p : Int} (h : ∀ x, c x = false) : ∀ (g : Nat) (d : Int), fa c P p g d = -9
  | 0, _ => rfl
  | g + 1, d => by
    simp only [fa, h]
    exact fa_n h g (d + 1)
def asks (P : Int) (Q : Int → Int → Int) (m : Int → Int) (o i : Int) : Bool := decide (m i = -9 ∧ us m o P.toNat = false ∧ 0 < Q i o)
def tks (P : Int) (Q : Int → Int → Int) (m po : Int → Int) (o : Int) : Int := fa (asks P Q m o) P (po o) P.toNat 0
structure Tn where
  m : Int → Int
  pi : Int → Int
  po : Int → Int
def took (P : Int) (tk : Int → Int) (pi : Int → Int) (i : Int) : Int := fa (fun o => decide (tk o = i)) P (pi i) P.toNat 0
def t1 (P : Int) (tk : Int → Int) (t i : Int) (s : Tn) : Tn := if took P tk s.pi i = -9 then s else ⟨fun x => if x = i then took P tk s.pi i else s.m x, fun x => if t = 0 ∧ x = i then (took P tk s.pi i + 1) % P else s.pi x, fun x => if t = 0 ∧ x = took P tk s.pi i then (i + 1) % P else s.po x⟩
def t2 (P : Int) (tk : Int → Int) (t : Int) : Nat → Int → Tn → Tn
  | 0, _, s => s
  | g + 1, i, s => t2 P tk t g (i + 1) (t1 P tk t i s)
def t3 (P : Int) (Q : Int → Int → Int) (t : Int) (s : Tn) : Tn := t2 P (tks P Q s.m s.po) t P.toNat 0 s
def t4 (P : Int) (Q : Int → Int → Int) : Nat → Int → Tn → Tn
  | 0, _, s => s
  | g + 1, t, s => t4 P Q g (t + 1) (t3 P Q t s)
def Tv (P : Int) (Q : Int → Int → Int) (s : Tn) : Prop := Vm P Q s.m ∧ ∀ i, 0 ≤ i → i < 5 → (0 ≤ s.pi i ∧ s.pi i < P) ∧ (0 ≤ s.po i ∧ s.po i < P)
def TK (P : Int) (Q : Int → Int → Int) (m0 tk : Int → Int) : Prop := ∀ o, 0 ≤ o → o < P → tk o = -9 ∨ (0 ≤ tk o ∧ tk o < P ∧ m0 (tk o) = -9 ∧ us m0 o P.toNat = false ∧ 0 < Q (tk o) o)
def TJ (P : Int) (m0 tk : Int → Int) (i : Int) (s : Tn) : Prop := ∀ x, 0 ≤ x → x < P → s.m x = m0 x ∨ (x < i ∧ tk (s.m x) = x)
theorem tks_k {P : Int} {Q : Int → Int → Int} {m po : Int → Int} (hp : 1 ≤ P) : TK P Q m (tks P Q m po) := by
  intro o o0 o1
  rcases fa_r (c := asks P Q m o) (p := po o) hp P.toNat 0 with h | ⟨h1, h2, h3⟩
  · exact Or.inl h
  · have h4 := of_decide_eq_true h3
    exact Or.inr ⟨h1, h2, h4⟩
theorem t_can {P : Int} {Q : Int → Int → Int} {m0 tk : Int → Int} (hp : 1 ≤ P) (hk : TK P Q m0 tk) {i : Int} {s : Tn} (hj : TJ P m0 tk i s) (i0 : 0 ≤ i) (i1 : i < P) (h : took P tk s.pi i ≠ -9) :
    (0 ≤ took P tk s.pi i ∧ took P tk s.pi i < P) ∧ (s.m i = -9 ∧ us s.m (took P tk s.pi i) P.toNat = false ∧ 0 < Q i (took P tk s.pi i)) ∧ tk (took P tk s.pi i) = i := by
  rcases fa_r (c := fun o => decide (tk o = i)) (p := s.pi i) hp P.toNat 0 with w | ⟨h1, h2, h3⟩
  · exact absurd w h
  · have h4 : tk (took P tk s.pi i) = i := of_decide_eq_true h3
    have h5 := hk (took P tk s.pi i) h1 h2
    rw [h4] at h5
    rcases h5 with e | ⟨_, _, e1, e2, e3⟩
    · omega
    · refine ⟨⟨h1, h2⟩, ⟨?_, us_mk (fun y y0 y1 => ?_), e3⟩, h4⟩
      · rcases hj i i0 i1 with e | ⟨e, _⟩
        · rw [e]; exact e1
        · omega
      · rcases hj y y0 (by omega) with e | ⟨e, e4⟩
        · rw [e]; exact us_f e2 y y0 y1
        · intro w; rw [w, h4] at e4; omega
theorem t1_j {P : Int} {Q : Int → Int → Int} {m0 tk : Int → Int} (hp : 1 ≤ P) (hk : TK P Q m0 tk) {t i : Int} {s : Tn} (hj : TJ P m0 tk i s) (hv : Tv P Q s) (i0 : 0 ≤ i) (i1 : i < P) : TJ P m0 tk (i + 1) (t1 P tk t i s) ∧ Tv P Q (t1 P tk t i s) := by
  unfold t1
  by_cases h : took P tk s.pi i = -9
  · rw [if_pos h]
    refine ⟨fun x x0 x1 => ?_, hv⟩
    rcases hj x x0 x1 with e | ⟨e, e2⟩
    · exact Or.inl e
    · exact Or.inr ⟨by omega, e2⟩
  · rw [if_neg h]
    obtain ⟨c1, c2, c3⟩ := t_can hp hk hj i0 i1 h
    refine ⟨fun x x0 x1 => ?_, fun x x0 x1 => ?_, fun x x0 x1 => ?_⟩
    · by_cases e : x = i
      · subst e; simp only [if_true]; exact Or.inr ⟨by omega, c3⟩
      · simp only [if_neg e]
        rcases hj x x0 x1 with e | ⟨e, e2⟩
        · exact Or.inl e
        · exact Or.inr ⟨by omega, e2⟩
    · by_cases e : x = i
      · subst e; simp only [if_true]; exact Or.inr ⟨c1.1, c1.2, i1, c2.2.2⟩
      · simp only [if_neg e]; exact hv.1 x x0 x1
    · have hx := hv.2 x x0 x1
      constructor
      · show 0 ≤ (if t = 0 ∧ x = i then (took P tk s.pi i + 1) % P else s.pi x) ∧ (if t = 0 ∧ x = i then (took P tk s.pi i + 1) % P else s.pi x) < P
        split
        · exact md_r hp
        · exact hx.1
      · show 0 ≤ (if t = 0 ∧ x = took P tk s.pi i then (i + 1) % P else s.po x) ∧ (if t = 0 ∧ x = took P tk s.pi i then (i + 1) % P else s.po x) < P
        split
        · exact md_r hp
        · exact hx.2
theorem t2_v {P : Int} {Q : Int → Int → Int} {m0 tk : Int → Int} (hp : 1 ≤ P) (hk : TK P Q m0 tk) {t : Int} : ∀ (g : Nat) (i : Int) (s : Tn), 0 ≤ i → i + g = P → TJ P m0 tk i s → Tv P Q s → Tv P Q (t2 P tk t g i s)
  | 0, _, _, _, _, _, h => h
  | g + 1, i, s, i0, e, hj, h => t2_v hp hk g (i + 1) _ (by omega) (by omega) (t1_j hp hk hj h i0 (by omega)).1 (t1_j hp hk hj h i0 (by omega)).2
theorem t3_v {P : Int} {Q : Int → Int → Int} (hp : 1 ≤ P) {t : Int} {s : Tn} (h : Tv P Q s) : Tv P Q (t3 P Q t s) := t2_v hp (tks_k hp) _ _ _ (by decide) (by omega) (fun _ _ _ => Or.inl rfl) h
theorem t4_v {P : Int} {Q : Int → Int → Int} (hp : 1 ≤ P) : ∀ (g : Nat) (t : Int) (s : Tn), Tv P Q s → Tv P Q (t4 P Q g t s)
  | 0, _, _, h => h
  | g + 1, t, s, h => t4_v hp g (t + 1) _ (t3_v hp h)
/-- the class' memory holds it -/
def MT (P : Int) (s : Tn) (ν ν' : zM) : Prop := (∀ i, 0 ≤ i → i < 5 → ν' 106 i = s.m i ∧ ν' 108 i = s.pi i ∧ ν' 109 i = s.po i) ∧ (∀ o, 0 ≤ o → o < P → (ν' 107 o = -9 ∧ us s.m o P.toNat = false) ∨ (0 ≤ ν' 107 o ∧ ν' 107 o < 5 ∧ us s.m o P.toNat = true)) ∧ ∀ a j, ¬ (106 ≤ a ∧ a ≤ 110) → ν' a j = ν a j
theorem MT.mc {P : Int} {s : Tn} (h : MT P s ν κ) : MC P s.m κ κ := ⟨fun i i0 i1 => (h.1 i i0 i1).1, h.2.1, fun _ _ _ _ => rfl⟩
theorem c4_around (hn : 154 ≤ n) {P x : Int} (hp : 1 ≤ P ∧ P ≤ 5) (h99 : κ 99 0 = P) (x0 : 0 ≤ x) (x1 : x < 2 * P) {K : Int → zM → Prop} (hK : K (x % P) κ) : mX4_aroundPorts G n x κ K := by
  refine eX4_aroundPorts (by omega) ?_
  rw [h99]
  simp (disch := omega) only [wr_of]
  refine ⟨fun z => ?_, fun z => ?_⟩
  · rw [← Int.sub_emod_right, Int.emod_eq_of_lt (by omega) (by omega)] at hK; exact hK
  · rw [Int.emod_eq_of_lt (by omega) (by omega)] at hK; exact hK
theorem c4_asks (hn : 154 ≤ n) {P : Int} {Q : Int → Int → Int} (q : Qk P Q) {s : Tn} (v : Tv P Q s) (h99 : κ 99 0 = P) (hQ : ∀ i o, 0 ≤ i → i < 5 → 0 ≤ o → o < 5 → κ (101 + i) o = Q i o) (mt : MT P s ν κ) {o : Int} (o0 : 0 ≤ o) (o1 : o < P) {K : Int → zM → Prop} (hK : K (tks P Q s.m s.po o) κ) : mX4_firstThatAsks G n o κ K := by
  have hp := q.1
  have po := (v.2 o o0 (by omega)).2
  have : ∀ (g : Nat) (d : Int), 0 ≤ d → d + g = P → tks P Q s.m s.po o = fa (asks P Q s.m o) P (s.po o) g d → pX4_firstThatAsks G n K 2 [some (Rv G 99), some (Iv o), some (Iv d), none] [] κ := by
    intro g
    induction g with
    | zero =>
      intro d d0 ed e
      refine bX4_firstThatAsks_2 (by omega) ?_
      rw [h99]
      simp (disch := omega) only [wr_of]
      refine ⟨fun _ => ?_, fun z => by omega⟩
      rw [e] at hK; exact hK
    | succ g ih =>
      intro d d0 ed e
      have o2 := md_r (a := s.po o + d) (P := P) hp.1
      refine bX4_firstThatAsks_2 (by omega) ?_
      rw [h99]
      simp (disch := omega) only [wr_of]
      rw [(mt.1 o o0 (by omega)).2.2]
      refine ⟨fun z => by omega, fun _ => ⟨by omega, c4_around hn hp h99 (by omega) (by omega) (c4_canMatch hn q v.1 hQ o2 ⟨o0, o1⟩ mt.mc (fun c => ⟨fun _ => ih (d + 1) (by omega) (by omega) ?_, fun z => absurd rfl z⟩) (fun c => ⟨fun z => absurd z (by decide), fun _ => ?_⟩))⟩⟩
      · rw [e]; simp only [fa]; rw [if_neg (fun w => c (of_decide_eq_true w))]
      · rw [e] at hK; simp only [fa] at hK; rw [if_pos (decide_eq_true c)] at hK; exact hK
  exact eX4_firstThatAsks (by omega) (this P.toNat 0 (by decide) (by omega) rfl)
theorem c4_took (hn : 154 ≤ n) {P : Int} {Q : Int → Int → Int} (q : Qk P Q) {s : Tn} (v : Tv P Q s) (h99 : κ 99 0 = P) (mt : MT P s ν κ) {tk : Int → Int} (h110 : ∀ o, 0 ≤ o → o < P → κ 110 o = tk o ∧ -9 ≤ tk o ∧ tk o < 5) {i : Int} (i0 : 0 ≤ i) (i1 : i < P) {K : Int → zM → Prop} (hK : K (took P tk s.pi i) κ) : mX4_firstThatTook G n i κ K := by
  have hp := q.1
  have pi := (v.2 i i0 (by omega)).1
  have : ∀ (g : Nat) (d : Int), 0 ≤ d → d + g = P → took P tk s.pi i = fa (fun o => decide (tk o = i)) P (s.pi i) g d → pX4_firstThatTook G n K 2 [some (Rv G 99), some (Iv i), some (Iv d), none] [] κ := by
    intro g
    induction g with
    | zero =>
      intro d d0 ed e
      refine bX4_firstThatTook_2 (by omega) ?_
      rw [h99]
      simp (disch := omega) only [wr_of]
      refine ⟨fun _ => ?_, fun z => by omega⟩
      rw [e] at hK; exact hK
    | succ g ih =>
      intro d d0 ed e
      have o2 := md_r (a := s.pi i + d) (P := P) hp.1
      have t2 := h110 _ o2.1 o2.2
      refine bX4_firstThatTook_2 (by omega) ?_
      rw [h99]
      simp (disch := omega) only [wr_of]
      rw [(mt.1 i i0 (by omega)).2.1]
      refine ⟨fun z => by omega, fun _ => ⟨by omega, c4_around hn hp h99 (by omega) (by omega) ?_⟩⟩
      simp (disch := omega) only [wr_of]
      rw [t2.1]
      simp (disch := omega) only [wr_of]
      refine ⟨by omega, fun z => ih (d + 1) (by omega) (by omega) ?_, fun z => ?_⟩
      · rw [e]; simp only [fa]; rw [if_neg (fun w => z (of_decide_eq_true w))]
      · rw [e] at hK; simp only [fa] at hK; rw [if_pos (decide_eq_true z)] at hK; exact hK
  exact eX4_firstThatTook (by omega) (this P.toNat 0 (by decide) (by omega) rfl)
theorem c4_turns (hn : 154 ≤ n) {P : Int} {Q : Int → Int → Int} {pi po : Int → Int} (q : Qk P Q) (hpp : ∀ i, 0 ≤ i → i < 5 → (0 ≤ pi i ∧ pi i < P) ∧ (0 ≤ po i ∧ po i < P)) (st : StC P Q pi po ν) {K : zM → Prop} (hK : ∀ ν', MT P (t4 P Q 3 0 ⟨fun _ => -9, pi, po⟩) ν ν' → K ν') : mX4_matchByTurns G n ν K := by
  have hp := q.1
  have fr : ∀ {s : Tn} {κ : zM}, MT P s ν κ → κ 99 0 = P ∧ ∀ i o, 0 ≤ i → i < 5 → 0 ≤ o → o < 5 → κ (101 + i) o = Q i o := fun mt => ⟨by rw [mt.2.2 _ _ (by omega)]; exact st.1, fun i o i0 i1 o0 o1 => by rw [mt.2.2 _ _ (by omega)]; exact st.2.1 i o i0 i1 o0 o1⟩
  have second : ∀ (t : Int) (_ : 0 ≤ t ∧ t < 3) (m0 tk : Int → Int) (_ : TK P Q m0 tk) (sE : Tn) (_ : ∀ κ', MT P sE ν κ' → pX4_matchByTurns G n K 2 [some (Rv G 99), some (Iv (t + 1)), none, none] [] κ') (g : Nat) (i : Int) (s : Tn) (κ : zM), 0 ≤ i → i + g = P → TJ P m0 tk i s → Tv P Q s → MT P s ν κ → (∀ o, 0 ≤ o → o < P → κ 110 o = tk o) → sE = t2 P tk t g i s → pX4_matchByTurns G n K 36 [some (Rv G 99), some (Iv t), some (Iv i), none] [] κ := by
    intro t ht m0 tk hk sE hE g
    induction g with
    | zero =>
      intro i s κ i0 ei hj v mt h110 e
      refine bX4_matchByTurns_36 (by omega) ?_
      rw [(fr mt).1]
      simp (disch := omega) only [wr_of]
      exact ⟨fun _ => hE κ (by rw [e]; exact mt), fun z => by omega⟩
    | succ g ih =>
      intro i s κ i0 ei hj v mt h110 e
      obtain ⟨f1, f2⟩ := fr mt
      have nj := t1_j (t := t) hp.1 hk hj v i0 (by omega)
      have tr : ∀ o, 0 ≤ o → o < P → κ 110 o = tk o ∧ -9 ≤ tk o ∧ tk o < 5 := fun o o0 o1 => ⟨h110 o o0 o1, by have := hk o o0 o1; omega⟩
      have or9 : took P tk s.pi i = -9 ∨ (0 ≤ took P tk s.pi i ∧ took P tk s.pi i < P ∧ _) := fa_r (c := fun o => decide (tk o = i)) (p := s.pi i) hp.1 P.toNat 0
      refine bX4_matchByTurns_36 (by omega) ?_
      rw [f1]
      simp (disch := omega) only [wr_of]
      refine ⟨fun z => by omega, fun _ => c4_took hn q v f1 mt tr i0 (by omega) ?_⟩
      have vr : -9 ≤ took P tk s.pi i ∧ took P tk s.pi i < 5 := by rcases or9 with w | ⟨w, w2, _⟩ <;> omega
      simp (disch := omega) only [wr_of]
      refine ⟨fun z => ?_, fun z => ih (i + 1) s κ (by omega) (by omega) (by have := nj.1; unfold t1 at this; rw [if_pos z] at this; exact this) v mt h110 (by rw [e]; simp only [t2]; unfold t1; rw [if_pos z])⟩
      obtain ⟨c1, c2, c3⟩ := t_can hp.1 hk hj i0 (by omega) z
      have e1 : t1 P tk t i s = ⟨fun x => if x = i then took P tk s.pi i else s.m x, fun x => if t = 0 ∧ x = i then (took P tk s.pi i + 1) % P else s.pi x, fun x => if t = 0 ∧ x = took P tk s.pi i then (i + 1) % P else s.po x⟩ := by unfold t1; rw [if_neg z]
      rw [e1] at nj
      have ee : sE = t2 P tk t g (i + 1) ⟨fun x => if x = i then took P tk s.pi i else s.m x, fun x => if t = 0 ∧ x = i then (took P tk s.pi i + 1) % P else s.pi x, fun x => if t = 0 ∧ x = took P tk s.pi i then (i + 1) % P else s.po x⟩ := by rw [e]; simp only [t2]; rw [e1]
      generalize took P tk s.pi i = o at *
      refine c4_match hn q ⟨i0, by omega⟩ c1 mt.mc c2 (fun κ' mc => ?_)
      sorry
  sorry
end T67
