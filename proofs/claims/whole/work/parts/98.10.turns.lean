section T67
variable {G : zG} {n : Nat} {μ ν κ : zM}
/-- the first around, from p on -/
def fa (c : Int → Bool) (P p : Int) : Nat → Int → Int
  | 0, _ => -9
  | g + 1, d => if c ((p + d) % P) = true then (p + d) % P else fa c P p g (d + 1)
theorem fa_r {c : Int → Bool} {P p : Int} (hp : 1 ≤ P) : ∀ (g : Nat) (d : Int), fa c P p g d = -9 ∨ (0 ≤ fa c P p g d ∧ fa c P p g d < P ∧ c (fa c P p g d) = true)
  | 0, _ => Or.inl rfl
  | g + 1, d => by
    simp only [fa]
    split
    · rename_i h
      exact Or.inr ⟨(md_r hp).1, (md_r hp).2, h⟩
    · exact fa_r hp g (d + 1)
theorem fa_n {c : Int → Bool} {P p : Int} (h : ∀ x, c x = false) : ∀ (g : Nat) (d : Int), fa c P p g d = -9
  | 0, _ => rfl
  | g + 1, d => by
    simp only [fa, h]
    exact fa_n h g (d + 1)
def asks (P : Int) (Q : Int → Int → Int) (m : Int → Int) (o i : Int) : Bool := decide (m i = -9 ∧ us m o P.toNat = false ∧ 0 < Q i o)
def tks (P : Int) (Q : Int → Int → Int) (m po : Int → Int) (o : Int) : Int := fa (asks P Q m o) P (po o) P.toNat 0
abbrev Tn := (Int → Int) × (Int → Int) × (Int → Int)
def took (P : Int) (tt : Int → Int) (pi : Int → Int) (i : Int) : Int := fa (fun o => decide (tt o = i)) P (pi i) P.toNat 0
def t1 (P : Int) (tt : Int → Int) (t i : Int) (s : Tn) : Tn := if took P tt s.2.1 i = -9 then s else ⟨fun x => if x = i then took P tt s.2.1 i else s.1 x, fun x => if t = 0 ∧ x = i then (took P tt s.2.1 i + 1) % P else s.2.1 x, fun x => if t = 0 ∧ x = took P tt s.2.1 i then (i + 1) % P else s.2.2 x⟩
def t2 (P : Int) (tt : Int → Int) (t : Int) : Nat → Int → Tn → Tn
  | 0, _, s => s
  | g + 1, i, s => t2 P tt t g (i + 1) (t1 P tt t i s)
def t3 (P : Int) (Q : Int → Int → Int) (t : Int) (s : Tn) : Tn := t2 P (tks P Q s.1 s.2.2) t P.toNat 0 s
def t4 (P : Int) (Q : Int → Int → Int) : Nat → Int → Tn → Tn
  | 0, _, s => s
  | g + 1, t, s => t4 P Q g (t + 1) (t3 P Q t s)
def Tv (P : Int) (Q : Int → Int → Int) (s : Tn) : Prop := Vm P Q s.1 ∧ ∀ i, 0 ≤ i → i < 5 → (0 ≤ s.2.1 i ∧ s.2.1 i < P) ∧ (0 ≤ s.2.2 i ∧ s.2.2 i < P)
def TK (P : Int) (Q : Int → Int → Int) (m0 tt : Int → Int) : Prop := ∀ o, 0 ≤ o → o < P → tt o = -9 ∨ (0 ≤ tt o ∧ tt o < P ∧ m0 (tt o) = -9 ∧ us m0 o P.toNat = false ∧ 0 < Q (tt o) o)
def TJ (P : Int) (m0 tt : Int → Int) (i : Int) (s : Tn) : Prop := ∀ x, 0 ≤ x → x < P → s.1 x = m0 x ∨ (x < i ∧ tt (s.1 x) = x)
theorem tks_k {P : Int} {Q : Int → Int → Int} {m po : Int → Int} (hp : 1 ≤ P) : TK P Q m (tks P Q m po) := by
  intro o o0 o1
  rcases fa_r (c := asks P Q m o) (p := po o) hp P.toNat 0 with h | ⟨h1, h2, h3⟩
  · exact Or.inl h
  · have h4 := of_decide_eq_true h3
    exact Or.inr ⟨h1, h2, h4⟩
theorem t_can {P : Int} {Q : Int → Int → Int} {m0 tt : Int → Int} (hp : 1 ≤ P) (hk : TK P Q m0 tt) {i : Int} {s : Tn} (hj : TJ P m0 tt i s) (i0 : 0 ≤ i) (i1 : i < P) (h : took P tt s.2.1 i ≠ -9) :
    (0 ≤ took P tt s.2.1 i ∧ took P tt s.2.1 i < P) ∧ (s.1 i = -9 ∧ us s.1 (took P tt s.2.1 i) P.toNat = false ∧ 0 < Q i (took P tt s.2.1 i)) ∧ tt (took P tt s.2.1 i) = i := by
  rcases fa_r (c := fun o => decide (tt o = i)) (p := s.2.1 i) hp P.toNat 0 with w | ⟨h1, h2, h3⟩
  · exact absurd w h
  · have h4 : tt (took P tt s.2.1 i) = i := of_decide_eq_true h3
    have h5 := hk (took P tt s.2.1 i) h1 h2
    rw [h4] at h5
    rcases h5 with e | ⟨_, _, e1, e2, e3⟩
    · omega
    · refine ⟨⟨h1, h2⟩, ⟨?_, us_mk (fun y y0 y1 => ?_), e3⟩, h4⟩
      · rcases hj i i0 i1 with e | ⟨e, _⟩
        · rw [e]; exact e1
        · omega
      · rcases hj y y0 (by omega) with e | ⟨e, e4⟩
        · rw [e]; exact us_f e2 y y0 y1
        · intro w; rw [w, h4] at e4; omega
theorem t1_j {P : Int} {Q : Int → Int → Int} {m0 tt : Int → Int} (hp : 1 ≤ P) (hk : TK P Q m0 tt) {t i : Int} {s : Tn} (hj : TJ P m0 tt i s) (hv : Tv P Q s) (i0 : 0 ≤ i) (i1 : i < P) : TJ P m0 tt (i + 1) (t1 P tt t i s) ∧ Tv P Q (t1 P tt t i s) := by
  unfold t1
  by_cases h : took P tt s.2.1 i = -9
  · rw [if_pos h]
    refine ⟨fun x x0 x1 => ?_, hv⟩
    rcases hj x x0 x1 with e | ⟨e, e2⟩
    · exact Or.inl e
    · exact Or.inr ⟨by omega, e2⟩
  · rw [if_neg h]
    obtain ⟨c1, c2, c3⟩ := t_can hp hk hj i0 i1 h
    refine ⟨fun x x0 x1 => ?_, fun x x0 x1 => ?_, fun x x0 x1 => ?_⟩
    · by_cases e : x = i
      · subst e; simp only [if_true]; exact Or.inr ⟨by omega, c3⟩
      · simp only [if_neg e]
        rcases hj x x0 x1 with e | ⟨e, e2⟩
        · exact Or.inl e
        · exact Or.inr ⟨by omega, e2⟩
    · by_cases e : x = i
      · subst e; simp only [if_true]; exact Or.inr ⟨c1.1, c1.2, i1, c2.2.2⟩
      · simp only [if_neg e]; exact hv.1 x x0 x1
    · have hx := hv.2 x x0 x1
      constructor
      · show 0 ≤ (if t = 0 ∧ x = i then (took P tt s.2.1 i + 1) % P else s.2.1 x) ∧ (if t = 0 ∧ x = i then (took P tt s.2.1 i + 1) % P else s.2.1 x) < P
        split
        · exact md_r hp
        · exact hx.1
      · show 0 ≤ (if t = 0 ∧ x = took P tt s.2.1 i then (i + 1) % P else s.2.2 x) ∧ (if t = 0 ∧ x = took P tt s.2.1 i then (i + 1) % P else s.2.2 x) < P
        split
        · exact md_r hp
        · exact hx.2
theorem t2_v {P : Int} {Q : Int → Int → Int} {m0 tt : Int → Int} (hp : 1 ≤ P) (hk : TK P Q m0 tt) {t : Int} : ∀ (g : Nat) (i : Int) (s : Tn), 0 ≤ i → i + g = P → TJ P m0 tt i s → Tv P Q s → Tv P Q (t2 P tt t g i s)
  | 0, _, _, _, _, _, h => h
  | g + 1, i, s, i0, e, hj, h => t2_v hp hk g (i + 1) _ (by omega) (by omega) (t1_j hp hk hj h i0 (by omega)).1 (t1_j hp hk hj h i0 (by omega)).2
theorem t3_v {P : Int} {Q : Int → Int → Int} (hp : 1 ≤ P) {t : Int} {s : Tn} (h : Tv P Q s) : Tv P Q (t3 P Q t s) := t2_v hp (tks_k hp) _ _ _ (by decide) (by omega) (fun _ _ _ => Or.inl rfl) h
theorem t4_v {P : Int} {Q : Int → Int → Int} (hp : 1 ≤ P) : ∀ (g : Nat) (t : Int) (s : Tn), Tv P Q s → Tv P Q (t4 P Q g t s)
  | 0, _, _, h => h
  | g + 1, t, s, h => t4_v hp g (t + 1) _ (t3_v hp h)
/-- the class' memory holds it -/
def MT (P : Int) (s : Tn) (ν ν' : zM) : Prop := (∀ i, 0 ≤ i → i < 5 → ν' 106 i = s.1 i ∧ ν' 108 i = s.2.1 i ∧ ν' 109 i = s.2.2 i) ∧ (∀ o, 0 ≤ o → o < P → (ν' 107 o = -9 ∧ us s.1 o P.toNat = false) ∨ (0 ≤ ν' 107 o ∧ ν' 107 o < 5 ∧ us s.1 o P.toNat = true)) ∧ ∀ a j, ¬ (106 ≤ a ∧ a ≤ 110) → ν' a j = ν a j
theorem MT.mc {P : Int} {s : Tn} (h : MT P s ν κ) : MC P s.1 κ κ := ⟨fun i i0 i1 => (h.1 i i0 i1).1, h.2.1, fun _ _ _ _ => rfl⟩
theorem c4_around (hn : 154 ≤ n) {P x : Int} (hp : 1 ≤ P ∧ P ≤ 5) (h99 : κ 99 0 = P) (x0 : 0 ≤ x) (x1 : x < 2 * P) {K : Int → zM → Prop} (hK : K (x % P) κ) : mX4_aroundPorts G n x κ K := by
  refine eX4_aroundPorts (by omega) ?_
  rw [h99]
  simp (disch := omega) only [wr_of]
  refine ⟨fun z => ?_, fun z => ?_⟩
  · rw [← Int.sub_emod_right, Int.emod_eq_of_lt (by omega) (by omega)] at hK; exact hK
  · rw [Int.emod_eq_of_lt (by omega) (by omega)] at hK; exact hK
theorem c4_asks (hn : 154 ≤ n) {P : Int} {Q : Int → Int → Int} (q : Qk P Q) {s : Tn} (v : Tv P Q s) (h99 : κ 99 0 = P) (hQ : ∀ i o, 0 ≤ i → i < 5 → 0 ≤ o → o < 5 → κ (101 + i) o = Q i o) (mt : MT P s ν κ) {o : Int} (o0 : 0 ≤ o) (o1 : o < P) {K : Int → zM → Prop} (hK : K (tks P Q s.1 s.2.2 o) κ) : mX4_firstThatAsks G n o κ K := by
  have hp := q.1
  have po := (v.2 o o0 (by omega)).2
  have : ∀ (g : Nat) (d : Int), 0 ≤ d → d + g = P → tks P Q s.1 s.2.2 o = fa (asks P Q s.1 o) P (s.2.2 o) g d → pX4_firstThatAsks G n K 2 [some (Rv G 99), some (Iv o), some (Iv d), none] [] κ := by
    intro g
    induction g with
    | zero =>
      intro d d0 ed e
      refine bX4_firstThatAsks_2 (by omega) ?_
      rw [h99]
      simp (disch := omega) only [wr_of]
      refine ⟨fun _ => ?_, fun z => by omega⟩
      rw [e] at hK; exact hK
    | succ g ih =>
      intro d d0 ed e
      have o2 := md_r (a := s.2.2 o + d) (P := P) hp.1
      refine bX4_firstThatAsks_2 (by omega) ?_
      rw [h99]
      simp (disch := omega) only [wr_of]
      rw [(mt.1 o o0 (by omega)).2.2]
      refine ⟨fun z => by omega, fun _ => ⟨by omega, c4_around hn hp h99 (by omega) (by omega) (c4_canMatch hn q v.1 hQ o2 ⟨o0, o1⟩ mt.mc (fun c => ⟨fun _ => ih (d + 1) (by omega) (by omega) ?_, fun z => absurd rfl z⟩) (fun c => ⟨fun z => absurd z (by decide), fun _ => ?_⟩))⟩⟩
      · rw [e]; simp only [fa]; rw [if_neg (show ¬ asks P Q s.1 o ((s.2.2 o + d) % P) = true from fun w => c (of_decide_eq_true w))]
      · rw [e] at hK; simp only [fa] at hK; rw [if_pos (show asks P Q s.1 o ((s.2.2 o + d) % P) = true from decide_eq_true c)] at hK; exact hK
  exact eX4_firstThatAsks (by omega) (this P.toNat 0 (by decide) (by omega) rfl)
theorem c4_took (hn : 154 ≤ n) {P : Int} {Q : Int → Int → Int} (q : Qk P Q) {s : Tn} (v : Tv P Q s) (h99 : κ 99 0 = P) (mt : MT P s ν κ) {tt : Int → Int} (h110 : ∀ o, 0 ≤ o → o < P → κ 110 o = tt o ∧ -9 ≤ tt o ∧ tt o < 5) {i : Int} (i0 : 0 ≤ i) (i1 : i < P) {K : Int → zM → Prop} (hK : K (took P tt s.2.1 i) κ) : mX4_firstThatTook G n i κ K := by
  have hp := q.1
  have pi := (v.2 i i0 (by omega)).1
  have : ∀ (g : Nat) (d : Int), 0 ≤ d → d + g = P → took P tt s.2.1 i = fa (fun o => decide (tt o = i)) P (s.2.1 i) g d → pX4_firstThatTook G n K 2 [some (Rv G 99), some (Iv i), some (Iv d), none] [] κ := by
    intro g
    induction g with
    | zero =>
      intro d d0 ed e
      refine bX4_firstThatTook_2 (by omega) ?_
      rw [h99]
      simp (disch := omega) only [wr_of]
      refine ⟨fun _ => ?_, fun z => by omega⟩
      rw [e] at hK; exact hK
    | succ g ih =>
      intro d d0 ed e
      have o2 := md_r (a := s.2.1 i + d) (P := P) hp.1
      have t2 := h110 _ o2.1 o2.2
      refine bX4_firstThatTook_2 (by omega) ?_
      rw [h99]
      simp (disch := omega) only [wr_of]
      rw [(mt.1 i i0 (by omega)).2.1]
      refine ⟨fun z => by omega, fun _ => ⟨by omega, c4_around hn hp h99 (by omega) (by omega) ?_⟩⟩
      simp (disch := omega) only [wr_of]
      rw [t2.1]
      try simp (disch := omega) only [wr_of]
      refine ⟨by omega, fun z => ih (d + 1) (by omega) (by omega) ?_, fun z => ?_⟩
      · rw [e]; simp only [fa]; rw [if_neg (fun w => z (of_decide_eq_true w))]
      · rw [e] at hK; simp only [fa] at hK; rw [if_pos (decide_eq_true z)] at hK; exact hK
  exact eX4_firstThatTook (by omega) (this P.toNat 0 (by decide) (by omega) rfl)
theorem c4_turns (hn : 154 ≤ n) {P : Int} {Q : Int → Int → Int} {pi po : Int → Int} (q : Qk P Q) (hpp : ∀ i, 0 ≤ i → i < 5 → (0 ≤ pi i ∧ pi i < P) ∧ (0 ≤ po i ∧ po i < P)) (st : StC P Q pi po ν) {K : zM → Prop} (hK : ∀ ν', MT P (t4 P Q 3 0 ⟨fun _ => -9, pi, po⟩) ν ν' → K ν') : mX4_matchByTurns G n ν K := by
  have hp := q.1
  have fr : ∀ {s : Tn} {κ : zM}, MT P s ν κ → κ 99 0 = P ∧ ∀ i o, 0 ≤ i → i < 5 → 0 ≤ o → o < 5 → κ (101 + i) o = Q i o := fun mt => ⟨by rw [mt.2.2 _ _ (by omega)]; exact st.1, fun i o i0 i1 o0 o1 => by rw [mt.2.2 _ _ (by omega)]; exact st.2.1 i o i0 i1 o0 o1⟩
  have second : ∀ (t : Int) (_ : 0 ≤ t ∧ t < 3) (m0 tt : Int → Int) (_ : TK P Q m0 tt) (sE : Tn) (_ : ∀ κ', MT P sE ν κ' → pX4_matchByTurns G n K 2 [some (Rv G 99), some (Iv (t + 1)), none, none] [] κ') (g : Nat) (i : Int) (s : Tn) (κ : zM), 0 ≤ i → i + g = P → TJ P m0 tt i s → Tv P Q s → MT P s ν κ → (∀ o, 0 ≤ o → o < P → κ 110 o = tt o) → sE = t2 P tt t g i s → pX4_matchByTurns G n K 36 [some (Rv G 99), some (Iv t), some (Iv i), none] [] κ := by
    intro t ht m0 tt hk sE hE g
    induction g with
    | zero =>
      intro i s κ i0 ei hj v mt h110 e
      refine bX4_matchByTurns_36 (by omega) ?_
      rw [(fr mt).1]
      simp (disch := omega) only [wr_of]
      exact ⟨fun _ => hE κ (by rw [e]; exact mt), fun z => by omega⟩
    | succ g ih =>
      intro i s κ i0 ei hj v mt h110 e
      obtain ⟨f1, f2⟩ := fr mt
      have nj := t1_j (t := t) hp.1 hk hj v i0 (by omega)
      have tr : ∀ o, 0 ≤ o → o < P → κ 110 o = tt o ∧ -9 ≤ tt o ∧ tt o < 5 := fun o o0 o1 => ⟨h110 o o0 o1, by have := hk o o0 o1; omega⟩
      have or9 : took P tt s.2.1 i = -9 ∨ (0 ≤ took P tt s.2.1 i ∧ took P tt s.2.1 i < P ∧ _) := fa_r (c := fun o => decide (tt o = i)) (p := s.2.1 i) hp.1 P.toNat 0
      refine bX4_matchByTurns_36 (by omega) ?_
      rw [f1]
      simp (disch := omega) only [wr_of]
      refine ⟨fun z => by omega, fun _ => c4_took hn q v f1 mt tr i0 (by omega) ?_⟩
      have vr : -9 ≤ took P tt s.2.1 i ∧ took P tt s.2.1 i < 5 := by rcases or9 with w | ⟨w, w2, _⟩ <;> omega
      simp (disch := omega) only [wr_of]
      refine ⟨fun z => ?_, fun z => ih (i + 1) s κ (by omega) (by omega) (by have := nj.1; unfold t1 at this; rw [if_pos z] at this; exact this) v mt h110 (by rw [e]; simp only [t2]; unfold t1; rw [if_pos z])⟩
      obtain ⟨c1, c2, c3⟩ := t_can hp.1 hk hj i0 (by omega) z
      have e1 : t1 P tt t i s = ⟨fun x => if x = i then took P tt s.2.1 i else s.1 x, fun x => if t = 0 ∧ x = i then (took P tt s.2.1 i + 1) % P else s.2.1 x, fun x => if t = 0 ∧ x = took P tt s.2.1 i then (i + 1) % P else s.2.2 x⟩ := by unfold t1; rw [if_neg z]
      rw [e1] at nj
      have ee : sE = t2 P tt t g (i + 1) ⟨fun x => if x = i then took P tt s.2.1 i else s.1 x, fun x => if t = 0 ∧ x = i then (took P tt s.2.1 i + 1) % P else s.2.1 x, fun x => if t = 0 ∧ x = took P tt s.2.1 i then (i + 1) % P else s.2.2 x⟩ := by rw [e]; simp only [t2]; rw [e1]
      generalize took P tt s.2.1 i = o at *
      refine c4_match hn q ⟨i0, by omega⟩ c1 mt.mc c2 (fun κ' mc => ?_)
      have eM : tk P Q s.1 i o = fun x => if x = i then o else s.1 x := by unfold tk; rw [if_pos c2]
      rw [eM] at mc
      have fin : ∀ κ3 : zM, (∀ a j, κ3 a j = if t = 0 ∧ a = 108 ∧ j = i then (o + 1) % P else if t = 0 ∧ a = 109 ∧ j = o then (i + 1) % P else κ' a j) → pX4_matchByTurns G n K 36 [some (Rv G 99), some (Iv t), some (Iv (i + 1)), none] [] κ3 := fun κ3 V => by
        refine ih (i + 1) _ κ3 (by omega) (by omega) nj.1 nj.2 ⟨fun x x0 x1 => ⟨?_, ?_, ?_⟩, fun x x0 x1 => ?_, fun a j w => ?_⟩ (fun x x0 x1 => ?_) ee
        · rw [V, if_neg (by omega), if_neg (by omega)]; exact mc.1 x x0 x1
        · rw [V, mc.2.2 108 x (by decide) (by decide), (mt.1 x x0 x1).2.1]
          by_cases w : t = 0 ∧ x = i
          · rw [if_pos ⟨w.1, rfl, w.2⟩]; simp only [if_pos w]
          · rw [if_neg (fun u => w ⟨u.1, u.2.2⟩), if_neg (by omega)]; simp only [if_neg w]
        · rw [V, mc.2.2 109 x (by decide) (by decide), (mt.1 x x0 x1).2.2]
          by_cases w : t = 0 ∧ x = o
          · rw [if_neg (by omega), if_pos ⟨w.1, rfl, w.2⟩]; simp only [if_pos w]
          · rw [if_neg (by omega), if_neg (fun u => w ⟨u.1, u.2.2⟩)]; simp only [if_neg w]
        · rw [V, if_neg (by omega), if_neg (by omega)]; exact mc.2.1 x x0 x1
        · rw [V, if_neg (by omega), if_neg (by omega), mc.2.2 a j (by omega) (by omega)]; exact mt.2.2 a j w
        · rw [V, if_neg (by omega), if_neg (by omega), mc.2.2 110 x (by decide) (by decide)]; exact h110 x x0 x1
      have g99 : κ' 99 0 = P := by rw [mc.2.2 _ _ (by decide) (by decide)]; exact f1
      try simp (disch := omega) only [wr_of]
      refine ⟨fun w => fin κ' (fun a j => by rw [if_neg (fun u => w u.1), if_neg (fun u => w u.1)]), fun w => c4_around hn hp g99 (by omega) (by omega) ⟨by omega, fun μ11 e11 => c4_around hn hp (by rw [e11, zu_na (by decide)]; exact g99) (by omega) (by omega) ⟨by omega, fun μ15 e15 => fin μ15 (fun a j => ?_)⟩⟩⟩
      rw [e15]; unfold zu
      by_cases u : a = 109 ∧ j = o
      · rw [if_pos u, if_neg (by omega), if_pos ⟨w, u⟩]
      · rw [if_neg u, e11]; unfold zu
        by_cases u2 : a = 108 ∧ j = i
        · rw [if_pos u2, if_pos ⟨w, u2⟩]
        · rw [if_neg u2, if_neg (fun y => u2 y.2), if_neg (fun y => u y.2)]
  have outer : ∀ (g : Nat) (t : Int) (s : Tn) (κ : zM), 0 ≤ t → t + g = 3 → Tv P Q s → MT P s ν κ → t4 P Q 3 0 ⟨fun _ => -9, pi, po⟩ = t4 P Q g t s → pX4_matchByTurns G n K 2 [some (Rv G 99), some (Iv t), none, none] [] κ := by
    intro g
    induction g with
    | zero =>
      intro t s κ t0 et v mt e
      refine bX4_matchByTurns_2 (by omega) ?_
      simp (disch := omega) only [wr_of]
      exact ⟨fun _ => hK κ (by rw [e]; exact mt), fun z => by omega⟩
    | succ g ih =>
      intro t s κ t0 et v mt e
      have first : ∀ (g2 : Nat) (o : Int) (κ : zM), 0 ≤ o → o + g2 = P → MT P s ν κ → (∀ x, 0 ≤ x → x < o → κ 110 x = tks P Q s.1 s.2.2 x) → pX4_matchByTurns G n K 9 [some (Rv G 99), some (Iv t), some (Iv o), none] [] κ := by
        intro g2
        induction g2 with
        | zero =>
          intro o κ o0 eo mt h110
          refine bX4_matchByTurns_9 (by omega) ?_
          rw [(fr mt).1]
          simp (disch := omega) only [wr_of]
          refine ⟨fun _ => second t ⟨t0, by omega⟩ s.1 _ (tks_k hp.1) (t3 P Q t s) (fun κ' mt' => ih (t + 1) _ κ' (by omega) (by omega) (t3_v hp.1 v) mt' (by rw [e]; rfl)) P.toNat 0 s κ (by decide) (by omega) (fun _ _ _ => Or.inl rfl) v mt (fun x x0 x1 => h110 x x0 (by omega)) rfl, fun z => by omega⟩
        | succ g2 ih2 =>
          intro o κ o0 eo mt h110
          obtain ⟨f1, f2⟩ := fr mt
          refine bX4_matchByTurns_9 (by omega) ?_
          rw [f1]
          simp (disch := omega) only [wr_of]
          refine ⟨fun z => by omega, fun _ => c4_asks hn q v f1 f2 mt o0 (by omega) ⟨by omega, fun μ5 e5 => ih2 (o + 1) μ5 (by omega) (by omega) ⟨fun x x0 x1 => ?_, fun x x0 x1 => ?_, fun a j w => ?_⟩ (fun x x0 x1 => ?_)⟩⟩
          · rw [e5, zu_na (by decide), zu_na (by decide), zu_na (by decide)]; exact mt.1 x x0 x1
          · rw [e5, zu_na (by decide)]; exact mt.2.1 x x0 x1
          · rw [e5, zu_na (by omega)]; exact mt.2.2 a j w
          · rw [e5]; unfold zu
            by_cases w : x = o
            · rw [if_pos ⟨rfl, w⟩, w]
            · rw [if_neg (fun u => w u.2)]; exact h110 x x0 (by omega)
      refine bX4_matchByTurns_2 (by omega) ?_
      simp (disch := omega) only [wr_of]
      exact ⟨fun z => by omega, fun _ => first P.toNat 0 κ (by decide) (by omega) mt (fun x _ _ => by omega)⟩
  exact eX4_matchByTurns (by omega) (outer 3 0 _ ν (by decide) (by decide) ⟨fun _ _ _ => Or.inl rfl, hpp⟩ ⟨fun i i0 i1 => ⟨(st.2.2 i i0 i1).1, (st.2.2 i i0 i1).2.2.1, (st.2.2 i i0 i1).2.2.2⟩, fun o o0 o1 => Or.inl ⟨(st.2.2 o o0 (by omega)).2.1, us_mk (fun x _ _ => by show (-9 : Int) ≠ o; omega)⟩, fun _ _ _ => rfl⟩ rfl)
end T67
