section T70
variable {G : zG} {n : Nat} {μ ν κ : zM}
/-- a row is one of a table -/
def Rok (P : Int) (T : Int → Int → Int) (c : Int → Int) : Prop := ∀ x, 0 ≤ x → x < P → 0 ≤ c x ∧ c x ≤ P ∧ (c x < P → 0 < T x (c x))
theorem rvs_m {f : Int → List (Int → Int)} {c : Int → Int} : ∀ (w : Nat) (v : Int), c ∈ rvs f w v → ∃ u, v ≤ u ∧ u < v + w ∧ c ∈ f u
  | 0, _, h => by simp [rvs] at h
  | w + 1, v, h => by
    simp only [rvs, List.mem_append] at h
    rcases h with h | h
    · exact ⟨v, by omega, by omega, h⟩
    · obtain ⟨u, a, b, e⟩ := rvs_m w (v + 1) h
      exact ⟨u, by omega, by omega, e⟩
theorem rws_r {P : Int} {T : Int → Int → Int} (hp : 1 ≤ P) : ∀ (g : Nat) (d : Int) (c0 c : Int → Int), 0 ≤ d → d + g = P → (∀ x, 0 ≤ x → x < d → 0 ≤ c0 x ∧ c0 x ≤ P ∧ (c0 x < P → 0 < T x (c0 x))) → c ∈ rws P T g d c0 → Rok P T c
  | 0, d, c0, c, d0, e, h, hm => by
    simp only [rws, List.mem_singleton] at hm
    subst hm
    exact fun x x0 x1 => h x x0 (by omega)
  | g + 1, d, c0, c, d0, e, h, hm => by
    simp only [rws] at hm
    obtain ⟨u, a, b, hm⟩ := rvs_m _ _ hm
    by_cases ok : okr P T d u c0 = true
    · simp only [if_pos ok] at hm
      refine rws_r hp g (d + 1) (up c0 d u) c (by omega) (by omega) (fun x x0 x1 => ?_) hm
      unfold up
      by_cases ex : x = d
      · simp only [if_pos ex]
        refine ⟨by omega, by omega, fun w => ?_⟩
        rcases of_decide_eq_true ok with y | y
        · omega
        · rw [ex]; exact y.1
      · simp only [if_neg ex]; exact h x x0 (by omega)
    · simp only [if_neg ok] at hm
      simp at hm
/-- the sum of a row -/
def rvl (P : Int) (T : Int → Int → Int) (x v : Int) : Int := if v < P then T x v else 0
def rsm (P : Int) (T : Int → Int → Int) (c : Int → Int) : Nat → Int
  | 0 => 0
  | k + 1 => rsm P T c k + rvl P T k (c k)
theorem rsm_r {P : Int} {T : Int → Int → Int} {c : Int → Int} (hT : ∀ i o, 0 ≤ i → i < P → 0 ≤ o → o < P → 0 ≤ T i o ∧ T i o ≤ 1000) (h : Rok P T c) : ∀ k : Nat, (k : Int) ≤ P → 0 ≤ rsm P T c k ∧ rsm P T c k ≤ 1000 * k
  | 0, _ => ⟨Int.le_refl 0, by simp [rsm]⟩
  | k + 1, hk => by
    have := rsm_r hT h k (by omega)
    have hc := h k (by omega) (by omega)
    simp only [rsm]
    unfold rvl
    split
    · rename_i w
      have := hT k (c k) (by omega) (by omega) hc.1 w
      omega
    · omega
def mr (P : Int) (c : Int → Int) : Int → Int := fun x => if x < P ∧ c x < P then c x else -9
/-- the first of the greatest -/
def rbt (P : Int) (T : Int → Int → Int) (b : Int × (Int → Int)) (c : Int → Int) : Int × (Int → Int) := if b.1 < rsm P T c P.toNat then (rsm P T c P.toNat, mr P c) else b
def rbst (P : Int) (T : Int → Int → Int) (s : List (Int → Int)) : Int × (Int → Int) := s.foldl (rbt P T) (-1, fun _ => -9)
theorem rbst_s {P : Int} {T : Int → Int → Int} (s : List (Int → Int)) (c : Int → Int) : rbst P T (s ++ [c]) = rbt P T (rbst P T s) c := by unfold rbst; rw [List.foldl_append]; rfl
def Rw (P : Int) (T : Int → Int → Int) : List (Int → Int) := rws P T P.toNat 0 (fun _ => 0)
theorem rbst_r {P : Int} {T : Int → Int → Int} (hp : 1 ≤ P ∧ P ≤ 5) (hT : ∀ i o, 0 ≤ i → i < P → 0 ≤ o → o < P → 0 ≤ T i o ∧ T i o ≤ 1000) (s : List (Int → Int)) (h : ∀ c, c ∈ s → Rok P T c) : (-1 ≤ (rbst P T s).1 ∧ (rbst P T s).1 ≤ 5000) ∧ Vm P T (rbst P T s).2 := by
  unfold rbst
  have : ∀ (s : List (Int → Int)) (b : Int × (Int → Int)), (∀ c, c ∈ s → Rok P T c) → ((-1 ≤ b.1 ∧ b.1 ≤ 5000) ∧ Vm P T b.2) → (-1 ≤ (s.foldl (rbt P T) b).1 ∧ (s.foldl (rbt P T) b).1 ≤ 5000) ∧ Vm P T (s.foldl (rbt P T) b).2 := by
    intro s
    induction s with
    | nil => intro b _ hb; exact hb
    | cons c s ih =>
      intro b hs hb
      refine ih _ (fun c2 m2 => hs c2 (List.mem_cons_of_mem _ m2)) ?_
      have rc := hs c List.mem_cons_self
      have r := rsm_r hT rc P.toNat (by omega)
      unfold rbt
      split
      · refine ⟨by simp only; omega, fun x x0 x1 => ?_⟩
        simp only [mr]
        split
        · rename_i w
          have := rc x x0 w.1
          exact Or.inr ⟨this.1, w.2, w.1, this.2.2 w.2⟩
        · exact Or.inl rfl
      · exact hb
  exact this s _ h ⟨⟨by decide, by decide⟩, fun _ _ _ => Or.inl rfl⟩
theorem c8_greatest (hn : 154 ≤ n) {P : Int} {Q : Int → Int → Int} {pi po : Int → Int} (q : Qk P Q) (st : StM P Q pi po ν) {K : zM → Prop}
    (hK : ∀ ν' : zM, (∀ i, 0 ≤ i → i < 5 → ν' 151 i = (rbst P Q (Rw P Q)).2 i) → (∀ a j, a ≠ 150 → a ≠ 151 → ¬ (a = 127 ∧ j = 38) → ν' a j = ν a j) → K ν') : mX8_matchGreatest G n ν K := by
  have hp := q.1
  have hT : ∀ i o, 0 ≤ i → i < P → 0 ≤ o → o < P → 0 ≤ Q i o ∧ Q i o ≤ 1000 := fun i o i0 i1 o0 o1 => ⟨(q.2 i o i0 (by omega) o0 (by omega)).1, (q.2 i o i0 (by omega) o0 (by omega)).2.1⟩
  have hR : ∀ c, c ∈ Rw P Q → Rok P Q c := fun c hc => rws_r hp.1 P.toNat 0 _ c (by decide) (by omega) (fun x x0 x1 => by omega) hc
  let I : List (Int → Int) → zM → Prop := fun s κ => (∀ i, 0 ≤ i → i < 5 → κ 151 i = (rbst P Q s).2 i) ∧ (∀ a j, a ≠ 150 → a ≠ 151 → ¬ (a = 127 ∧ j = 38) → κ a j = ν a j)
  let Kb : List (Int → Int) → Int → zM → Prop := fun s r κ => (wr r = 0 → K κ) ∧ (¬ (wr r = 0) → pX8_matchGreatest G n K 21 [some (Rv G 127), some (Iv (rbst P Q s).1), some (Iv 0), some (Iv 0)] [] κ)
  have i30 : ∀ s κ, I s κ → κ 127 30 = P := fun s κ hi => by rw [hi.2 _ _ (by decide) (by decide) (by decide)]; exact st.1
  have iQ : ∀ s κ, I s κ → ∀ i o, 0 ≤ i → i < P → 0 ≤ o → o < P → κ 147 (5 * i + o) = Q i o := fun s κ hi i o i0 i1 o0 o1 => by rw [hi.2 _ _ (by decide) (by decide) (fun w => absurd w.1 (by decide))]; exact st.2.1 i o i0 (by omega) o0 (by omega)
  have icl : ∀ s κ κ', I s κ → Gf κ κ' → I s κ' := fun s κ κ' hi gf => ⟨fun i i0 i1 => by rw [gf 151 i (by decide) (fun w => absurd w.1 (by decide))]; exact hi.1 i i0 i1, fun a j a1 a2 a3 => by rw [gf a j a1 a3]; exact hi.2 a j a1 a2 a3⟩
  have row : ∀ s c r κ, Rw P Q = s ++ c :: r → κ 127 38 = P - 1 → (∀ x, 0 ≤ x → x < P → κ 150 x = c x) → I s κ → (∀ κ' : zM, κ' 127 38 = P - 1 → (∀ x, 0 ≤ x → x < P → κ' 150 x = c x) → I (s ++ [c]) κ' → pX8_goOn G n (Kb (s ++ [c])) 0 [some (Rv G 127), some (Rv G 147), none] [] κ') → Kb s 1 κ := by
    intro s c r κ hL k38 kc hi hnext
    have rc : Rok P Q c := hR c (by rw [hL]; simp)
    have bs := (rbst_r hp hT s (fun c2 m2 => hR c2 (by rw [hL]; simp [m2]))).1
    have sr := rsm_r hT rc
    have h30 := i30 s κ hi
    have hQ := iQ s κ hi
    have eb := rbst_s (P := P) (T := Q) s c
    refine ⟨fun z => absurd z (by decide), fun _ => ?_⟩
    -- the row is kept
    have keep : (rbst P Q s).1 < rsm P Q c P.toNat → ∀ (g : Nat) (x : Int) (κ1 : zM), 0 ≤ x → x + g = P → (∀ a j, a ≠ 151 → κ1 a j = κ a j) → (∀ y, 0 ≤ y → y < 5 → κ1 151 y = if y < x then mr P c y else κ 151 y) → pX8_matchGreatest G n K 79 [some (Rv G 127), some (Iv (rsm P Q c P.toNat)), none, some (Iv x)] [] κ1 := by
      intro hb g
      have eb2 : rbst P Q (s ++ [c]) = (rsm P Q c P.toNat, mr P c) := by rw [eb]; unfold rbt; rw [if_pos hb]
      induction g with
      | zero =>
        intro x κ1 x0 ex hf hm
        refine bX8_matchGreatest_79 (by omega) ?_
        rw [hf 127 30 (by decide), h30]
        simp (disch := omega) only [wr_of]
        refine ⟨fun _ => bX8_matchGreatest_6 (by omega) (eX8_goOn (by omega) ?_), fun z => by omega⟩
        have := hnext κ1 (by rw [hf 127 38 (by decide)]; exact k38) (fun y y0 y1 => by rw [hf 150 y (by decide)]; exact kc y y0 y1) ⟨fun i i0 i1 => ?_, fun a j a1 a2 a3 => by rw [hf a j a2]; exact hi.2 a j a1 a2 a3⟩
        · simp only [Kb, eb2] at this
          exact this
        · rw [hm i i0 i1, eb2]
          by_cases w : i < x
          · rw [if_pos w]
          · rw [if_neg w, hi.1 i i0 i1]
            have vv := (rbst_r hp hT s (fun c2 m2 => hR c2 (by rw [hL]; simp [m2]))).2 i i0 i1
            show (rbst P Q s).2 i = mr P c i
            unfold mr
            rw [if_neg (by omega)]
            omega
      | succ g ih =>
        intro x κ1 x0 ex hf hm
        have cx := rc x x0 (by omega)
        refine bX8_matchGreatest_79 (by omega) ?_
        rw [hf 127 30 (by decide), h30]
        simp (disch := omega) only [wr_of]
        rw [hf 150 x (by decide), kc x x0 (by omega)]
        simp (disch := omega) only [wr_of]
        refine ⟨fun z => by omega, fun _ => ⟨by omega, fun z => ⟨by omega, fun μ5 e5 => ih (x + 1) μ5 (by omega) (by omega) (fun a j w => by rw [e5, zu_na w]; exact hf a j w) (fun y y0 y1 => ?_)⟩, fun z => ⟨by omega, by omega, fun μ8 e8 => ih (x + 1) μ8 (by omega) (by omega) (fun a j w => by rw [e8, zu_na w]; exact hf a j w) (fun y y0 y1 => ?_)⟩⟩⟩
        · rw [e5]; unfold zu
          by_cases w : y = x
          · rw [if_pos ⟨rfl, w⟩, if_pos (by omega)]; unfold mr; rw [w, if_neg (by omega)]
          · rw [if_neg (fun u => w u.2), hm y y0 y1]
            by_cases w2 : y < x
            · rw [if_pos w2, if_pos (by omega)]
            · rw [if_neg w2, if_neg (by omega)]
        · rw [e8]; unfold zu
          by_cases w : y = x
          · rw [if_pos ⟨rfl, w⟩, if_pos (by omega)]; unfold mr; rw [w, if_pos (by omega)]
          · rw [if_neg (fun u => w u.2), hm y y0 y1]
            by_cases w2 : y < x
            · rw [if_pos w2, if_pos (by omega)]
            · rw [if_neg w2, if_neg (by omega)]
    have sum : ∀ (g k : Nat), (k : Int) + g = P → pX8_matchGreatest G n K 21 [some (Rv G 127), some (Iv (rbst P Q s).1), some (Iv (rsm P Q c k)), some (Iv k)] [] κ := by
      intro g
      induction g with
      | zero =>
        intro k ek
        have ekP : P.toNat = k := by omega
        have s1 := sr k (by omega)
        refine bX8_matchGreatest_21 (by omega) ?_
        rw [h30]
        simp (disch := omega) only [wr_of]
        refine ⟨fun _ => ⟨fun z => bX8_matchGreatest_6 (by omega) (eX8_goOn (by omega) ?_), fun z => ?_⟩, fun z => by omega⟩
        · have eb2 : rbst P Q (s ++ [c]) = rbst P Q s := by rw [eb]; unfold rbt; rw [if_neg (by rw [ekP]; omega)]
          have := hnext κ k38 kc ⟨fun i i0 i1 => by rw [eb2]; exact hi.1 i i0 i1, hi.2⟩
          simp only [Kb, eb2] at this
          exact this
        · rw [← ekP]
          exact keep (by rw [ekP]; omega) P.toNat 0 κ (by decide) (by omega) (fun _ _ _ => rfl) (fun y y0 _ => by rw [if_neg (by omega)])
      | succ g ih =>
        intro k ek
        have s1 := sr k (by omega)
        have ck := rc k (by omega) (by omega)
        have nx := ih (k + 1) (by omega)
        simp only [rsm] at nx
        refine bX8_matchGreatest_21 (by omega) ?_
        rw [h30]
        simp (disch := omega) only [wr_of]
        rw [kc k (by omega) (by omega)]
        simp (disch := omega) only [wr_of]
        refine ⟨fun z => by omega, fun _ => ⟨by omega, fun z => ?_, fun z => ⟨by omega, by omega, fun v7 e7 => ?_⟩⟩⟩
        · unfold rvl at nx; rw [if_neg (by omega)] at nx; exact nx
        · rw [hQ k (c k) (by omega) (by omega) ck.1 (by omega)] at e7
          unfold rvl at nx; rw [if_pos (by omega)] at nx
          rw [e7]; exact nx
    exact sum P.toNat 0 (by omega)
  have fin : ∀ κ, I (Rw P Q) κ → Kb (Rw P Q) 0 κ := fun κ hi => ⟨fun _ => hK κ hi.1 hi.2, fun z => absurd rfl z⟩
  refine eX8_matchGreatest (by omega) (fun v1 e1 => eX8_begin (by omega) (fun μ1 e2 => ⟨by decide, fun μ3 e3 => bX8_matchGreatest_6 (by omega) (eX8_goOn (by omega) ?_)⟩))
  have w38 : μ3 127 38 = 0 := by rw [e3, zu_na (by decide), e2]; unfold zu; rw [if_pos ⟨rfl, rfl⟩]
  have w150 : μ3 150 0 = -1 := by rw [e3]; unfold zu; rw [if_pos ⟨rfl, by decide⟩]
  have hi : I [] μ3 := ⟨fun i i0 i1 => by rw [e3, zu_na (by decide), e2, zu_na (by decide)]; exact (st.2.2 i i0 i1).1, fun a j a1 a2 a3 => by rw [e3, zu_na a1, e2]; unfold zu; rw [if_neg a3]⟩
  obtain ⟨g, eg⟩ : ∃ g : Nat, P.toNat = g + 1 := ⟨P.toNat - 1, by omega⟩
  have eL : Rw P Q = [] ++ rvs (rfn P Q g 0 (fun _ => 0)) (P + 1).toNat 0 ++ [] := by unfold Rw; rw [eg]; simp only [rws, List.nil_append, List.append_nil]
  have := go_all (G := G) (T := Q) (I := I) (Kb := Kb) hn hp (t := 147) ⟨by decide, by omega, by decide, by decide, by decide, by decide⟩ (fun s κ hi => ⟨i30 s κ hi, fun i o i0 i1 o0 o1 => ⟨iQ s κ hi i o i0 i1 o0 o1, (hT i o i0 i1 o0 o1).1, by have := (hT i o i0 i1 o0 o1).2; omega⟩⟩) icl row g 0 (fun _ => 0) (P + 1).toNat 0 [] [] μ3 (by decide) (by omega) (by decide) (by omega) (fun x x0 x1 => by omega) eL w38 w150 (fun x x0 x1 => by omega) hi (fun κ' q38 _ qi => ?_)
  · rw [e1]; exact this
  · have eL2 : [] ++ rvs (rfn P Q g 0 (fun _ => 0)) (P + 1).toNat 0 = Rw P Q := by rw [eL]; simp
    rw [eL2] at qi ⊢
    refine bX8_goOn_0 (by omega) ?_
    rw [q38]
    simp (disch := omega) only [wr_of]
    exact ⟨fun _ => fin κ' qi, fun z => by omega⟩
end T70
