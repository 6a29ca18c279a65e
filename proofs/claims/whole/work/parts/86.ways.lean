section T46
variable {G : zG} {n : Nat} {μ ν : zM}
theorem c1_set1 (hn : 154 ≤ n) {d : Nat} {x : Int} {K : Int → zM → Prop} (hK : K 1 μ) : mX1_settingsOf G n (d + 1) 1 x μ K := eX1_settingsOf (by omega) ⟨fun q => absurd q (by decide), fun _ => hK⟩
theorem c1_set2 (hn : 154 ≤ n) {d : Nat} {fm : Int} (hfm : fm = 0 ∨ fm = 4) {f : Int → Int} (hf : ∀ x : Int, 0 ≤ x → x < 4 → μ 24 (fm + x) = f x ∧ 0 ≤ f x ∧ f x < 4) {K : Int → zM → Prop} (hK : ∀ ν : zM, (∀ a j, a ≠ 23 → ν a j = μ a j) → K (W2 f 4) ν) : mX1_settingsOf G n (d + 2) 2 fm μ K := by
  refine eX1_settingsOf (by omega) ⟨fun _ v2 e2 => ?_, fun q => absurd (by decide) q⟩
  rw [show v2 = 2 by rw [e2]; decide +kernel]
  have key : ∀ (g m : Nat) (ν : zM), m + g = 4 → (∀ a j, a ≠ 23 → ν a j = μ a j) → pX1_settingsOf G n (d + 1) K 19 [some (Rv G 19), some (Iv 2), some (Iv fm), some (Iv 2), some (Lv (W2 f m)), none, some (Iv m)] [] ν := by
    intro g
    induction g with
    | zero =>
      intro m ν em hfr
      have : m = 4 := by omega
      subst this
      refine bX1_settingsOf_19 (by omega) ?_
      rw [show zshl 1 2 = 4 by decide +kernel]
      exact ⟨fun _ => hK ν hfr, fun z => absurd (by decide) z⟩
    | succ g ih =>
      intro m ν em hfr
      refine bX1_settingsOf_19 (by omega) ?_
      rw [show zshl 1 2 = 4 by decide +kernel]
      simp (disch := omega) only [wr_of]
      refine ⟨fun z => by omega, fun _ => c1_splitBy (w := 4) (f := f) hn (Or.inl ⟨rfl, rfl, hfm⟩) (fun x x0 x1 => ?_) (fun hh ν' h1 h2 => ?_) (fun hh ν' h2 => ?_)⟩
      · rw [hfr _ _ (by decide)]; exact hf x x0 x1
      · have l := lr_R4 (fr := m) (f := f) 4 (by decide) (fun y hy => (hf y (by omega) (by omega)).2)
        simp (disch := omega) only [wr_of]
        refine ⟨fun z => by omega, fun _ => c1_set1 hn (c1_set1 hn (fun v9 e9 => ?_))⟩
        have nx := ih (m + 1) ν' (by omega) (fun a j q => by rw [h2 a j (by omega), hfr a j q])
        simp only [W2] at nx
        rw [if_pos (show Hok m f 4 from hh)] at nx
        rw [e9]; exact nx
      · refine ⟨fun _ => ?_, fun z => absurd rfl z⟩
        have nx := ih (m + 1) ν' (by omega) (fun a j q => by rw [h2 a j (by omega), hfr a j q])
        simp only [W2] at nx
        rw [if_neg (show ¬ Hok m f 4 from hh), Int.add_zero] at nx
        exact nx
  exact key 4 0 μ (by decide) (fun _ _ _ => rfl)
theorem c1_set3 (hn : 154 ≤ n) {d : Nat} {f : Int → Int} (hf : ∀ x : Int, 0 ≤ x → x < 8 → μ 25 (0 + x) = f x ∧ 0 ≤ f x ∧ f x < 8) {K : Int → zM → Prop} (hK : ∀ ν : zM, (∀ a j, a ≠ 23 → a ≠ 24 → ν a j = μ a j) → K (W3 f 16) ν) : mX1_settingsOf G n (d + 3) 3 0 μ K := by
  refine eX1_settingsOf (by omega) ⟨fun _ v2 e2 => ?_, fun q => absurd (by decide) q⟩
  rw [show v2 = 4 by rw [e2]; decide +kernel]
  have key : ∀ (g m : Nat) (ν : zM), m + g = 16 → (∀ a j, a ≠ 23 → a ≠ 24 → ν a j = μ a j) → pX1_settingsOf G n (d + 2) K 19 [some (Rv G 19), some (Iv 3), some (Iv 0), some (Iv 4), some (Lv (W3 f m)), none, some (Iv m)] [] ν := by
    intro g
    induction g with
    | zero =>
      intro m ν em hfr
      have : m = 16 := by omega
      subst this
      refine bX1_settingsOf_19 (by omega) ?_
      rw [show zshl 1 4 = 16 by decide +kernel]
      exact ⟨fun _ => hK ν hfr, fun z => absurd (by decide) z⟩
    | succ g ih =>
      intro m ν em hfr
      refine bX1_settingsOf_19 (by omega) ?_
      rw [show zshl 1 4 = 16 by decide +kernel]
      simp (disch := omega) only [wr_of]
      refine ⟨fun z => by omega, fun _ => c1_splitBy (w := 8) (f := f) hn (Or.inr ⟨rfl, rfl, rfl⟩) (fun x x0 x1 => ?_) (fun hh ν' h1 h2 => ?_) (fun hh ν' h2 => ?_)⟩
      · rw [hfr _ _ (by decide) (by decide)]; exact hf x x0 x1
      · have l := lr_R (fr := m) (f := f) 8 (by decide) (fun y hy => (hf y (by omega) (by omega)).2)
        simp (disch := omega) only [wr_of]
        have I0 := ing_Ij (w := 8) (Or.inr rfl) (fun x a b => (hf x a b).2) hh (v := 0) (Or.inl rfl)
        have I1 := ing_Ij (w := 8) (Or.inr rfl) (fun x a b => (hf x a b).2) hh (v := 1) (Or.inr rfl)
        refine ⟨fun z => by omega, fun _ => c1_set2 (f := ing m f 0) hn (Or.inl rfl) (fun x x0 x1 => ?_) (fun ν2 f2 => c1_set2 (f := ing m f 1) hn (Or.inr rfl) (fun x x0 x1 => ?_) (fun ν3 f3 v9 e9 => ?_))⟩
        · refine ⟨?_, I0.1 x x0 x1⟩
          have := h1 0 x (Or.inl rfl) x0 (by omega)
          rw [← this, show (0 : Int) * ((8 : Nat) / 2) + x = 0 + x by omega]; rfl
        · refine ⟨?_, I1.1 x x0 x1⟩
          have := h1 1 x (Or.inr rfl) x0 (by omega)
          rw [← this, f2 _ _ (by decide), show (1 : Int) * ((8 : Nat) / 2) + x = 4 + x by omega]; rfl
        · have nx := ih (m + 1) ν3 (by omega) (fun a j q1 q2 => by rw [f3 a j q1, f2 a j q1, h2 a j (by omega), hfr a j q1 q2])
          simp only [W3] at nx
          rw [if_pos (show Hok m f 8 from hh)] at nx
          rw [e9]; exact nx
      · refine ⟨fun _ => ?_, fun z => absurd rfl z⟩
        have nx := ih (m + 1) ν' (by omega) (fun a j q1 q2 => by rw [h2 a j (by omega), hfr a j q1 q2])
        simp only [W3] at nx
        rw [if_neg (show ¬ Hok m f 8 from hh), Int.add_zero] at nx
        exact nx
  exact key 16 0 μ (by decide) (fun _ _ _ _ => rfl)
/-- the class's word for 'none yet' -/
def cls (v : Int) : Int := if v < 0 then -9 else v
theorem cls_bst {o s : Int} (ho : -1 ≤ o) (hs : 0 ≤ s) : cls (bst o s) = if cls o = -9 then s else if s < cls o then s else cls o := by
  unfold cls bst
  by_cases c : o < 0
  · rw [if_pos (Or.inl c), if_pos c, if_pos rfl, if_neg (by omega)]
  · rw [if_neg c, if_neg (show ¬ o = -9 by omega)]
    by_cases d : s < o
    · rw [if_pos (Or.inr d), if_neg (by omega), if_pos d]
    · rw [if_neg (show ¬ (o < 0 ∨ s < o) by omega), if_neg c, if_neg d]
theorem c1_lst1 (hn : 154 ≤ n) {d : Nat} {x v : Int} (x0 : 0 ≤ x) (x8 : x < 8) (hv : μ 23 x = v) (hr : 0 ≤ v ∧ v < 8) {K : Int → zM → Prop} (hK : K v μ) : mX1_leastOf G n (d + 1) 1 x μ K := by
  refine eX1_leastOf (by omega) ⟨fun q => absurd q (by decide), fun _ => ⟨by decide, ?_⟩⟩
  rw [show (21 : Int) + 1 + wr 1 = 23 by decide +kernel]
  simp (disch := omega) only [wr_of]
  rw [hv]
  try simp (disch := omega) only [wr_of]
  exact ⟨by omega, hK⟩
theorem c1_lst2 (hn : 154 ≤ n) {d : Nat} {fm : Int} (hfm : fm = 0 ∨ fm = 4) {f : Int → Int} (hf : ∀ x : Int, 0 ≤ x → x < 4 → μ 24 (fm + x) = f x ∧ 0 ≤ f x ∧ f x < 4) (hI : Ij 4 f) {K : Int → zM → Prop} (hK : ∀ ν : zM, (∀ a j, a ≠ 23 → ν a j = μ a j) → K (L2 f 4) ν) : mX1_leastOf G n (d + 2) 2 fm μ K := by
  refine eX1_leastOf (by omega) ⟨fun _ v2 e2 v3 e3 v4 e4 => ?_, fun q => absurd (by decide) q⟩
  have E2 : v2 = 4 := by rw [e2]; decide +kernel
  have E3 : v3 = 2 := by rw [e3, E2]; decide +kernel
  rw [E3, E2, e4]
  have key : ∀ (g m : Nat) (ν : zM), m + g = 4 → (∀ a j, a ≠ 23 → ν a j = μ a j) → pX1_leastOf G n (d + 1) K 32 [some (Rv G 19), some (Iv 2), some (Iv fm), some (Iv 4), some (Iv 2), some (Lv (cls (L2 f m))), none, some (Iv m), none, none, none, none, none] [] ν := by
    intro g
    induction g with
    | zero =>
      intro m ν em hfr
      have : m = 4 := by omega
      subst this
      refine bX1_leastOf_32 (by omega) ?_
      rw [show zshl 1 2 = 4 by decide +kernel]
      refine ⟨fun _ => ?_, fun z => absurd (by decide) z⟩
      rw [show cls (L2 f 4) = L2 f 4 by unfold cls; rw [if_neg (by have := L2_0 hI; omega)]]
      exact hK ν hfr
    | succ g ih =>
      intro m ν em hfr
      have hff : ∀ x, 0 ≤ x → x < 4 → 0 ≤ f x ∧ f x < 4 := fun x a b => (hf x a b).2
      have lm := L2_r hff m (by omega)
      have nm := num4_r (m := m) (by omega) hff
      refine bX1_leastOf_32 (by omega) ?_
      rw [show zshl 1 2 = 4 by decide +kernel]
      simp (disch := omega) only [wr_of]
      refine ⟨fun z => by omega, fun _ => c1_splitBy (w := 4) (f := f) hn (Or.inl ⟨rfl, rfl, hfm⟩) (fun x x0 x1 => ?_) (fun hh ν' h1 h2 => ?_) (fun hh ν' h2 => ?_)⟩
      · rw [hfr _ _ (by decide)]; exact hf x x0 x1
      · have l := lr_R4 (fr := m) (f := f) 4 (by decide) (fun y hy => hff y (by omega) (by omega))
        have a := ing4_r (m := m) hff (v := 0) (Or.inl rfl)
        have b := ing4_r (m := m) hff (v := 1) (Or.inr rfl)
        have i0 : ν' 23 0 = ing m f 0 0 := by
          have := h1 0 0 (Or.inl rfl) (by decide) (by decide)
          exact this
        have i1 : ν' 23 2 = ing m f 1 0 := by
          have := h1 1 0 (Or.inr rfl) (by decide) (by decide)
          exact this
        have nx := ih (m + 1) ν' (by omega) (fun a j q => by rw [h2 a j (by omega), hfr a j q])
        simp only [L2] at nx
        rw [if_pos (show Hok m f 4 from hh), cls_bst lm.1 nm.1] at nx
        have cr : R64 (cls (L2 f m)) := by unfold cls; split <;> exact ⟨by omega, by omega⟩
        have nr : R64 (num4 m f) := ⟨by omega, by omega⟩
        simp (disch := omega) only [wr_of]
        refine ⟨fun _ => c1_lst1 hn (by decide) (by decide) i0 (by omega) (c1_lst1 hn (by decide) (by decide) i1 (by omega) ⟨by decide, fun v10 e10 v11 e11 => ?_⟩), fun z => by omega⟩
        have E10 : v10 = ing m f 0 0 + ing m f 1 0 * 2 := by
          rw [e10, show zpairs (2 - 1 : Int).toNat = ((1 : Nat) : Int) by decide +kernel]
          exact or64 rfl (by decide) (by omega) (by omega) (by omega) (by omega)
        have E11 : v11 = num4 m f := by
          rw [e11, or32 (a := (m : Int)) (b := lr m f 4) (k := 2) (m := 2) rfl (by decide) (by omega) (by omega) (by omega) (by omega)]
          rw [wr_of (by omega) (by omega), or64 (a := (m : Int) + lr m f 4 * 2 ^ 2) (b := v10) (k := 4) (m := 4) rfl (by decide) (by omega) (by omega) (by omega) (by omega), E10]
          unfold num4
          omega
        rw [E11, zlcmp_i cr (b := -9) ⟨by decide, by decide⟩, zlcmp_i nr cr]
        have c9 : -9 ≤ cls (L2 f m) := by unfold cls; split <;> omega
        refine ⟨fun z => ?_, fun z => ⟨fun z2 => ?_, fun z2 => ?_⟩⟩
        · rw [if_pos (by repeat' split at z; all_goals omega)] at nx
          exact nx
        · rw [if_neg (by repeat' split at z; all_goals omega), if_neg (by repeat' split at z2; all_goals omega)] at nx
          exact nx
        · rw [if_neg (by repeat' split at z; all_goals omega), if_pos (by repeat' split at z2; all_goals omega)] at nx
          exact nx
      · refine ⟨fun z => absurd rfl z, fun _ => ?_⟩
        have nx := ih (m + 1) ν' (by omega) (fun a j q => by rw [h2 a j (by omega), hfr a j q])
        simp only [L2] at nx
        rw [if_neg (show ¬ Hok m f 4 from hh)] at nx
        exact nx
  have := key 4 0 μ (by decide) (fun _ _ _ => rfl)
  exact this
end T46
