section T78
variable {G : zG} {n : Nat} {μ ν κ : zM}
/-- a table less a row -/
def lessR (T : Int → Int → Int) (c : Int → Int) : Int → Int → Int := fun i o => if c i = o then T i o - 1 else T i o
theorem c8_takeRound (hn : 154 ≤ n) {P : Nat} (hP : ν 127 30 = P) (hP1 : 1 ≤ P) (hP5 : P ≤ 5) {T : Int → Int → Int} (hT : Tb T) (hm : ∀ i o : Int, 0 ≤ i → i < P → 0 ≤ o → o < P → ν 146 (5 * i + o) = T i o) (hs : spn T P ≤ 250 ∧ 0 ≤ spn T P) (hex : ∃ c, c ∈ Rw P T ∧ Tg P T (spn T P) c) {K : zM → Prop}
    (hK : ∀ (c : Int → Int) (s r : List (Int → Int)) (κ : zM), Rw P T = s ++ c :: r → (∀ c', c' ∈ s → ¬ Tg P T (spn T P) c') → Tg P T (spn T P) c → (∀ x : Int, 0 ≤ x → x < P → κ 150 x = c x) → (∀ i o : Int, 0 ≤ i → i < P → 0 ≤ o → o < P → κ 146 (5 * i + o) = lessR T c i o) → (∀ a j, a ≠ 146 → a ≠ 150 → ¬ (a = 127 ∧ j = 38) → κ a j = ν a j) → K κ) : mX8_takeRound G n ν K := by
  have hp : 1 ≤ (P : Int) ∧ (P : Int) ≤ 5 := ⟨by omega, by omega⟩
  have hR : ∀ c, c ∈ Rw P T → Rok P T c := fun c hc => rws_r hp.1 (P : Int).toNat 0 _ c (by decide) (by omega) (fun x x0 x1 => by omega) hc
  let I : List (Int → Int) → zM → Prop := fun s κ => (∀ c', c' ∈ s → ¬ Tg P T (spn T P) c') ∧ Gf ν κ
  let Kb : List (Int → Int) → Int → zM → Prop := fun _ r κ => pX8_takeRound G n K 18 [some (Rv G 127), some (Iv (spn T P)), some (Iv r), none] [] κ
  have i30 : ∀ s κ, I s κ → κ 127 30 = P := fun s κ hi => by rw [hi.2 127 30 (by decide) (by decide)]; exact hP
  have iT : ∀ s κ, I s κ → ∀ i o : Int, 0 ≤ i → i < P → 0 ≤ o → o < P → κ 146 (5 * i + o) = T i o := fun s κ hi i o i0 i1 o0 o1 => by rw [hi.2 146 _ (by decide) (fun w => absurd w.1 (by decide))]; exact hm i o i0 i1 o0 o1
  have row : ∀ s c r κ, Rw P T = s ++ c :: r → κ 127 38 = (P : Int) - 1 → (∀ x : Int, 0 ≤ x → x < (P : Int) → κ 150 x = c x) → I s κ → (∀ κ' : zM, κ' 127 38 = (P : Int) - 1 → (∀ x : Int, 0 ≤ x → x < (P : Int) → κ' 150 x = c x) → I (s ++ [c]) κ' → pX8_goOn G n (Kb (s ++ [c])) 0 [some (Rv G 127), some (Rv G 146), none] [] κ') → Kb s 1 κ := by
    intro s c r κ hL k38 kc hi hnext
    have rc : Rok P T c := hR c (by rw [hL]; simp)
    refine bX8_takeRound_18 (by omega) ⟨fun z => absurd z (by decide), fun _ => c8_isTight hn (i30 s κ hi) hP1 hP5 hT (iT s κ hi) (fun x x0 x1 => ⟨kc x x0 x1, (rc x x0 x1).1, (rc x x0 x1).2.1⟩) hs.2 hs.1 (fun tg => ⟨fun _ => ?_, fun w => absurd w (by decide)⟩) (fun tg => ⟨fun w => absurd rfl w, fun _ => eX8_goOn (by omega) (hnext κ k38 kc ⟨fun c' m => ?_, hi.2⟩)⟩)⟩
    · have take : ∀ (g : Nat) (x : Int) (κ1 : zM), 0 ≤ x → x + g = P → (∀ a j, a ≠ 146 → κ1 a j = κ a j) → (∀ i o : Int, 0 ≤ i → i < P → 0 ≤ o → o < P → κ1 146 (5 * i + o) = if i < x then lessR T c i o else T i o) → pX8_takeRound G n K 44 [some (Rv G 127), none, none, some (Iv x)] [] κ1 := by
        intro g
        induction g with
        | zero =>
          intro x κ1 x0 ex hf ht
          refine bX8_takeRound_44 (by omega) ?_
          rw [hf 127 30 (by decide), i30 s κ hi]
          simp (disch := omega) only [wr_of]
          refine ⟨fun _ => hK c s r κ1 hL hi.1 tg (fun y y0 y1 => by rw [hf 150 y (by decide)]; exact kc y y0 y1) (fun i o i0 i1 o0 o1 => by rw [ht i o i0 i1 o0 o1, if_pos (by omega)]) (fun a j a1 a2 a3 => by rw [hf a j a1]; exact hi.2 a j a2 a3), fun z => by omega⟩
        | succ g ih =>
          intro x κ1 x0 ex hf ht
          have cx := rc x x0 (by omega)
          refine bX8_takeRound_44 (by omega) ?_
          rw [hf 127 30 (by decide), i30 s κ hi]
          simp (disch := omega) only [wr_of]
          rw [hf 150 x (by decide), kc x x0 (by omega)]
          simp (disch := omega) only [wr_of]
          refine ⟨fun z => by omega, fun _ => ⟨by omega, fun z => ih (x + 1) κ1 (by omega) (by omega) hf (fun i o i0 i1 o0 o1 => ?_), fun z => ⟨by omega, by omega, by omega, fun μ7 e7 => ih (x + 1) μ7 (by omega) (by omega) (fun a j w => by rw [e7, zu_na w]; exact hf a j w) (fun i o i0 i1 o0 o1 => ?_)⟩⟩⟩
          · rw [ht i o i0 i1 o0 o1]
            by_cases q : i = x
            · rw [if_neg (by omega), if_pos (by omega)]; unfold lessR; rw [q, if_neg (by omega)]
            · by_cases q2 : i < x
              · rw [if_pos q2, if_pos (by omega)]
              · rw [if_neg q2, if_neg (by omega)]
          · rw [e7]; unfold zu
            by_cases q : i = x ∧ o = c x
            · rw [if_pos ⟨rfl, by omega⟩, ht x (c x) x0 (by omega) cx.1 (by omega), if_neg (by omega), if_pos (by omega)]
              unfold lessR; rw [q.1, if_pos q.2.symm, q.2]
            · rw [if_neg (by omega), ht i o i0 i1 o0 o1]
              by_cases q1 : i = x
              · rw [if_neg (by omega), if_pos (by omega)]; unfold lessR; rw [if_neg (fun w => q ⟨q1, by rw [← w, q1]⟩)]
              · by_cases q2 : i < x
                · rw [if_pos q2, if_pos (by omega)]
                · rw [if_neg q2, if_neg (by omega)]
      exact take P 0 κ (by decide) (by omega) (fun _ _ _ => rfl) (fun i o i0 i1 o0 o1 => by rw [if_neg (by omega)]; exact iT s κ hi i o i0 i1 o0 o1)
    · rw [List.mem_append] at m
      rcases m with m | m
      · exact hi.1 c' m
      · rw [List.mem_singleton] at m; rw [m]; exact tg
  refine eX8_takeRound (by omega) (c8_spanLeft hn hP hP5 hT hm (eX8_begin (by omega) (fun μ1 e2 => ⟨by decide, fun μ3 e3 => eX8_goOn (by omega) ?_⟩)))
  have w38 : μ3 127 38 = 0 := by rw [e3, zu_na (by decide), e2]; unfold zu; rw [if_pos ⟨rfl, rfl⟩]
  have w150 : μ3 150 0 = -1 := by rw [e3]; unfold zu; rw [if_pos ⟨rfl, by decide⟩]
  have hi : I [] μ3 := ⟨fun c' m => by simp at m, fun a j a1 a3 => by rw [e3, zu_na a1, e2]; unfold zu; rw [if_neg a3]⟩
  obtain ⟨g, eg⟩ : ∃ g : Nat, (P : Int).toNat = g + 1 := ⟨P - 1, by omega⟩
  have eL : Rw P T = [] ++ rvs (rfn P T g 0 (fun _ => 0)) ((P : Int) + 1).toNat 0 ++ [] := by unfold Rw; rw [eg]; simp only [rws, List.nil_append, List.append_nil]
  refine go_all (G := G) (T := T) (I := I) (Kb := Kb) hn hp (t := 146) ⟨by decide, by omega, by decide, by decide, by decide, by decide⟩ (fun s κ hi => ⟨i30 s κ hi, fun i o i0 i1 o0 o1 => ⟨iT s κ hi i o i0 i1 o0 o1, (hT i o i0 (by omega) o0 (by omega)).1, by have := (hT i o i0 (by omega) o0 (by omega)).2; omega⟩⟩) (fun s κ κ' hi gf => ⟨hi.1, hi.2.t gf⟩) row g 0 (fun _ => 0) ((P : Int) + 1).toNat 0 [] [] μ3 (by decide) (by omega) (by decide) (by omega) (fun x x0 x1 => by omega) eL w38 w150 (fun x x0 x1 => by omega) hi (fun κ' q38 _ qi => ?_)
  have eL2 : [] ++ rvs (rfn P T g 0 (fun _ => 0)) ((P : Int) + 1).toNat 0 = Rw P T := by rw [eL]; simp
  rw [eL2] at qi
  obtain ⟨c, m, tg⟩ := hex
  exact absurd tg (qi.1 c m)
end T78
