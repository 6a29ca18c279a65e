section T91
variable {G : zG} {n : Nat} {μ ν κ : zM}
theorem tq_all {P : Nat} {T : Int → Int → Int} (hP1 : 1 ≤ P) (hP5 : P ≤ 5) (hT : Tb T) : ∀ t : Nat, (t : Int) ≤ spn T P → Tb (tq P T t) ∧ spn (tq P T t) P = spn T P - t
  | 0, _ => by
    refine ⟨fun i o i0 i1 o0 o1 => ?_, ?_⟩
    · show 0 ≤ cut P T i o ∧ cut P T i o ≤ 50
      have := hT i o i0 i1 o0 o1
      unfold cut; split
      · exact this
      · exact ⟨by decide, by decide⟩
    · show spn (cut P T) P = _
      rw [spn_e (T' := T) (fun i o i0 i1 o0 o1 => cut_in i0 i1 o0 o1)]
      simp
  | t + 1, h => by
    have ih := tq_all hP1 hP5 hT t (by omega)
    have hs : 0 < spn (tq P T t) P := by omega
    obtain ⟨c, f⟩ := FR_x hP1 hP5 ih.1 hs
    obtain ⟨r, j, tg⟩ := FR_r hP1 f
    have e : tq P T (t + 1) = lsm P (tq P T t) c 1 := by simp only [tq]; rw [fr_e f]
    rw [e]
    refine ⟨fun i o i0 i1 o0 o1 => ?_, ?_⟩
    · have q := ih.1 i o i0 i1 o0 o1
      unfold lsm
      split
      · rename_i w
        split
        · rename_i w2
          have := (r i i0 w.1.2).2.2 (by omega)
          rw [w2] at this
          omega
        · exact q
      · exact ⟨Int.le_refl 0, by decide⟩
    · have e2 : spn (lsm P (tq P T t) c 1) P = spn (lessR (tq P T t) c) P := spn_e (fun i o i0 i1 o0 o1 => by
        rw [lsm_in i0 i1 o0 o1]; rfl)
      rw [e2, spn_less hs (fun x x0 x1 => (r x x0 x1).1) j tg]
      omega
theorem tq_fr {P : Nat} {T : Int → Int → Int} (hP1 : 1 ≤ P) (hP5 : P ≤ 5) (hT : Tb T) {t : Nat} (h : (t : Int) < spn T P) : FR P (tq P T t) (fr P (tq P T t)) := by
  have a := tq_all hP1 hP5 hT t (by omega)
  obtain ⟨c, f⟩ := FR_x hP1 hP5 a.1 (by omega)
  rw [fr_e f]; exact f
/-- where a phase begins -/
def pst (μ : zM) (j : Int) : Int := if j = 0 then 0 else μ 97 (j - 1)
/-- what k phases say -/
def PHk (P : Nat) (T : Int → Int → Int) (k : Int) (μ : zM) : Prop := (∀ j : Int, 0 ≤ j → j < k → (0 ≤ pst μ j ∧ pst μ j < μ 97 j ∧ μ 97 j ≤ 250) ∧ ∀ t : Nat, pst μ j ≤ t → (t : Int) < μ 97 j → ∀ i : Int, 0 ≤ i → i < P → μ (61 + j) i = mr P (fr P (tq P T t)) i) ∧ (∀ j : Int, 0 < j → j < k → ∃ i : Int, (0 ≤ i ∧ i < P) ∧ μ (61 + j) i ≠ μ (60 + j) i)
def PH (μ : zM) : Prop := ∃ P : Nat, μ 45 0 = P ∧ (0 ≤ μ 45 1 ∧ μ 45 1 ≤ 36) ∧ PHk P (tT μ) (μ 45 1) μ ∧ pst μ (μ 45 1) = spn (tT μ) P
theorem tq_c {P : Nat} {T T' : Int → Int → Int} (h : ∀ i o : Int, 0 ≤ i → i < P → 0 ≤ o → o < P → T i o = T' i o) : tq P T = tq P T' := by
  have e : cut P T = cut P T' := by
    funext i o
    unfold cut
    split
    · rename_i w; exact h i o w.1.1 w.1.2 w.2.1 w.2.2
    · rfl
  funext t
  induction t with
  | zero => simp only [tq]; exact e
  | succ t ih => simp only [tq]; rw [ih]
theorem PHk_e {P : Nat} {T T' : Int → Int → Int} {k : Int} (hP5 : P ≤ 5) (h : PHk P T k μ) (e97 : ∀ j, ν 97 j = μ 97 j) (e61 : ∀ a j, 61 ≤ a → a ≤ 60 + k → ν a j = μ a j) (eT : ∀ i o : Int, 0 ≤ i → i < P → 0 ≤ o → o < P → T i o = T' i o) : PHk P T' k ν := by
  have ep : ∀ j, pst ν j = pst μ j := fun j => by unfold pst; rw [e97]
  refine ⟨fun j j0 j1 => ?_, fun j j0 j1 => ?_⟩
  · have := h.1 j j0 j1
    rw [ep, e97]
    refine ⟨this.1, fun t t0 t1 i i0 i1 => ?_⟩
    rw [e61 _ _ (by omega) (by omega), this.2 t t0 t1 i i0 i1, tq_c eT]
  · obtain ⟨i, hi, q⟩ := h.2 j j0 j1
    refine ⟨i, hi, ?_⟩
    rw [e61 _ _ (by omega) (by omega), e61 _ _ (by omega) (by omega)]
    exact q
theorem PH_e (hb : μ 45 0 ≤ 5) (h : PH μ) (e0 : ν 45 0 = μ 45 0) (e1 : ν 45 1 = μ 45 1) (eT : ∀ a j, 47 ≤ a → a ≤ 51 → ν a j = μ a j) (e61 : ∀ a j, 61 ≤ a → a ≤ 97 → ν a j = μ a j) : PH ν := by
  obtain ⟨P, hP, hk, hh, he⟩ := h
  have t : ∀ i o : Int, 0 ≤ i → i < P → 0 ≤ o → o < P → tT μ i o = tT ν i o := fun i o i0 i1 o0 o1 => (eT (47 + i) o (by omega) (by omega)).symm
  refine ⟨P, by rw [e0]; exact hP, by rw [e1]; exact hk, ?_, ?_⟩
  · rw [e1]
    exact PHk_e (by omega) hh (fun j => e61 97 j (by decide) (by decide)) (fun a j q1 q2 => e61 a j q1 (by omega)) t
  · rw [e1, ← spn_e t, ← he]
    unfold pst
    rw [e61 97 _ (by decide) (by decide)]
theorem mr_ne {P : Nat} {c c' : Int → Int} {x : Int} (x1 : x < P) (h : 0 ≤ c x ∧ c x ≤ P) (h' : 0 ≤ c' x ∧ c' x ≤ P) (q : c' x ≠ c x) : mr P c' x ≠ mr P c x := by
  unfold mr
  by_cases b : c' x < P
  · rw [if_pos ⟨x1, b⟩]
    by_cases a : c x < P
    · rw [if_pos ⟨x1, a⟩]; exact q
    · rw [if_neg (by omega)]; omega
  · rw [if_neg (show ¬ (x < (P : Int) ∧ c' x < P) by omega)]
    by_cases a : c x < P
    · rw [if_pos ⟨x1, a⟩]; omega
    · omega
/-- what parting may write -/
def Fp (μ ν : zM) : Prop := ∀ a j, (a = 45 → j ≠ 1 ∧ j ≠ 3) → ¬ (53 ≤ a ∧ a ≤ 59) → ¬ (61 ≤ a ∧ a ≤ 98) → ν a j = μ a j
theorem c3_phases (hn : 154 ≤ n) {P : Nat} {T : Int → Int → Int} (hP1 : 1 ≤ P) (hP5 : P ≤ 5) (hT : Tb T) (hP : μ 45 0 = P) {K : zM → Prop} (hK : ∀ (k : Int) (ν : zM), 0 ≤ k → k ≤ 36 → ν 45 1 = k → PHk P T k ν → pst ν k = spn T P → Fp μ ν → K ν) :
    ∀ (f k a : Nat) (κ : zM), k + f = 36 → (a : Int) ≤ spn T P → ((k : Int) + phi P (tq P T a) ≤ 35 ∨ spn (tq P T a) P = 0) → κ 45 1 = k → PHk P T k κ → pst κ k = a → (0 < k → ∀ c', FR P (tq P T a) c' → ∃ i : Int, (0 ≤ i ∧ i < P) ∧ mr P c' i ≠ κ (60 + k) i) → (∀ i o : Int, 0 ≤ i → i < P → 0 ≤ o → o < P → κ (53 + i) o = tq P T a i o) → (∀ i : Int, 0 ≤ i → i < P → κ 58 i = rs (tq P T a) P i ∧ κ 59 i = cs (tq P T a) P i) → κ 45 3 = spn (tq P T a) P → Fp μ κ → pX3_partIfStale G n K 65 [some (Rv G 45), some (Iv a), none, none] [] κ := by
  have s250 : spn T P ≤ 250 := (hT.s (m := P) (P := P) hP5 hP5).2
  intro f
  induction f with
  | zero =>
    intro k a κ ek ha hphi hk hph hp hdiff hm h58 h3 hf
    have al := tq_all hP1 hP5 hT a ha
    have pr := phi_r (P := P) (T := tq P T a) hP5
    have s0 : spn (tq P T a) P = 0 := by
      rcases hphi with w | w
      · omega
      · exact w
    refine bX3_partIfStale_65 (by omega) ?_
    rw [hk]
    simp (disch := omega) only [wr_of]
    exact ⟨fun _ => hK k κ (by omega) (by omega) hk hph (by rw [hp]; omega) hf, fun z => by omega⟩
  | succ f ih =>
    intro k a κ ek ha hphi hk hph hp hdiff hm h58 h3 hf
    have al := tq_all hP1 hP5 hT a ha
    have hPk : κ 45 0 = P := by rw [hf 45 0 (fun _ => ⟨by decide, by decide⟩) (by decide) (by decide)]; exact hP
    refine bX3_partIfStale_65 (by omega) ?_
    rw [hk, h3, show (60 : Int) + 1 = 61 from rfl]
    simp (disch := omega) only [wr_of]
    refine ⟨fun z => by omega, fun _ => ⟨fun z => hK k κ (by omega) (by omega) hk hph (by rw [hp]; omega) hf, fun z => ⟨by omega, ?_⟩⟩⟩
    have hs : 0 < spn (tq P T a) P := by omega
    refine c3_choose hn hP1 hP5 hPk al.1 hm h58 h3 hs (x := 61 + k) ⟨by omega, by omega⟩ (fun c κ5 fc hr5 hf5 => ?_)
    obtain ⟨rok, inj, tg⟩ := FR_r hP1 fc
    have hP5' : κ5 45 0 = P := by rw [hf5 45 0 (by decide) (by omega)]; exact hPk
    have k5 : κ5 45 1 = k := by rw [hf5 45 1 (by decide) (by omega)]; exact hk
    have hm5 : ∀ i o : Int, 0 ≤ i → i < P → 0 ≤ o → o < P → κ5 (53 + i) o = tq P T a i o := fun i o i0 i1 o0 o1 => by rw [hf5 _ _ (by omega) (by omega)]; exact hm i o i0 i1 o0 o1
    refine c3_rounds hn hP1 hP5 hP5' al.1 hm5 (fun i i0 i1 => by rw [hf5 58 i (by decide) (by omega), hf5 59 i (by decide) (by omega)]; exact h58 i i0 i1) (by rw [hf5 45 3 (by decide) (by omega)]; exact h3) (x := 61 + k) ⟨by omega, by omega⟩ rok hr5 (fun L ln => ?_)
    have L0 := Ln_0 hP1 hs fc ln
    have L1 := ln.1.1
    obtain ⟨l, el⟩ := Int.eq_ofNat_of_zero_le (show 0 ≤ L by omega)
    subst el
    try rw [k5]
    try simp (disch := omega) only [wr_of]
    refine c3_takeOff hn hP5 hP5' hm5 (x := 61 + k) ⟨by omega, by omega⟩ rok hr5 (fun κ9 hm9 hf9 v10 e10 => ?_)
    have k9 : κ9 45 1 = k := by rw [hf9 45 1 (by decide)]; exact k5
    rw [k9]
    simp (disch := omega) only [wr_of]
    refine ⟨by omega, fun μ12 e12 => ?_⟩
    have f12 : ∀ a j : Int, a ≠ 97 → ¬ (53 ≤ a ∧ a ≤ 57) → a ≠ 98 → a ≠ 61 + k → μ12 a j = κ a j := fun a j q1 q2 q3 q4 => by
      rw [e12, zu_na q1, hf9 a j q2, hf5 a j q3 q4]
    have tl := tq_ph hP1 rfl al.1 hs fc ln
    refine c3_addUp hn (Or.inr rfl) (P := P) (T := lsm P (tq P T a) c l) (by rw [f12 45 0 (by decide) (by decide) (by decide) (by omega)]; exact hPk) hP5 (Tb_l hP5 al.1 ln (Int.le_refl _)) (fun i o i0 i1 o0 o1 => ?_) (fun μ14 ad μ15 e15 => ?_)
    · rw [show (52 : Int) + 1 + i = 53 + i by omega, e12, zu_na (by omega)]
      exact hm9 i o i0 i1 o0 o1
    · obtain ⟨ad1, ad2, ad3⟩ := ad
      have f14 : ∀ a j, a ≠ 58 → a ≠ 59 → ¬ (a = 45 ∧ j = 3) → ¬ (a = 45 ∧ j = 1) → μ15 a j = μ12 a j := fun a j q1 q2 q3 q4 => by
        rw [e15, zu_ne q4, ad3 a j q1 q2 q3]
      have k14 : μ14 45 1 = k := by rw [ad3 45 1 (by decide) (by decide) (by decide), f12 45 1 (by decide) (by decide) (by decide) (by omega)]; exact hk
      have g97 : ∀ j, μ15 97 j = if j = k then (a : Int) + l else κ 97 j := fun j => by
        rw [f14 97 j (by decide) (by decide) (by omega) (by omega), e12]
        unfold zu
        by_cases q : j = k
        · rw [if_pos ⟨rfl, q⟩, if_pos q]; exact e10
        · rw [if_neg (fun u => q u.2), if_neg q, hf9 97 j (by decide), hf5 97 j (by decide) (by omega)]
      have gx : ∀ i : Int, 0 ≤ i → i < P → μ15 (61 + k) i = mr P c i := fun i i0 i1 => by
        rw [f14 _ _ (by omega) (by omega) (by omega) (by omega), e12, zu_na (by omega), hf9 _ _ (by omega)]
        exact hr5 i i0 i1
      have gr1 : ∀ a j : Int, 61 ≤ a → a ≤ 60 + k → μ15 a j = κ a j := fun a j q1 q2 => by
        rw [f14 _ _ (by omega) (by omega) (by omega) (by omega)]
        exact f12 a j (by omega) (by omega) (by omega) (by omega)
      have gp : ∀ j : Int, j ≤ k → pst μ15 j = pst κ j := fun j q => by
        unfold pst
        split
        · rfl
        · rw [g97, if_neg (by omega)]
      have v10e : v10 = ((a + l : Nat) : Int) := by rw [e10]; omega
      have e1 : ((k + 1 : Nat) : Int) = (k : Int) + 1 := by omega
      have et := (tl l).1 (Int.le_refl _)
      have sl := spn_l hP1 hs fc ln (t := l) (Int.le_refl _)
      rw [v10e]
      refine ih (k + 1) (a + l) μ15 (by omega) (by omega) ?_ ?_ ⟨fun j j0 j1 => ?_, fun j j0 j1 => ?_⟩ ?_ (fun _ c' f2 => ?_) (fun i o i0 i1 o0 o1 => ?_) (fun i i0 i1 => ?_) ?_ (fun a j q1 q2 q3 => ?_)
      · rw [et]
        by_cases w : 0 < spn (tq P T a) P - l
        · have := phi_l hP1 hs fc ln w
          left
          rcases hphi with u | u <;> omega
        · right; omega
      · rw [e15, zu_same, k14, e1]
      · by_cases q : j = k
        · rw [gp j (by omega), q, hp, g97, if_pos rfl]
          refine ⟨⟨by omega, by omega, by omega⟩, fun t t0 t1 i i0 i1 => ?_⟩
          rw [gx i i0 i1]
          have := (tl (t - a)).2 (by omega)
          rw [show a + (t - a) = t by omega] at this
          rw [this]
        · have h1 := hph.1 j j0 (by omega)
          rw [gp j (by omega), g97, if_neg q]
          refine ⟨h1.1, fun t t0 t1 i i0 i1 => ?_⟩
          rw [gr1 _ _ (by omega) (by omega)]
          exact h1.2 t t0 t1 i i0 i1
      · by_cases q : j = k
        · obtain ⟨i, hi, w⟩ := hdiff (by omega) c fc
          refine ⟨i, hi, ?_⟩
          rw [q, gx i hi.1 hi.2, gr1 _ _ (by omega) (by omega)]
          exact w
        · obtain ⟨i, hi, w⟩ := hph.2 j j0 (by omega)
          refine ⟨i, hi, ?_⟩
          rw [gr1 _ _ (by omega) (by omega), gr1 _ _ (by omega) (by omega)]
          exact w
      · rw [e1]; unfold pst; rw [if_neg (by omega), g97, if_pos (by omega)]; omega
      · rw [et] at f2
        have w : 0 < spn (tq P T a) P - l := by
          refine Classical.byContradiction (fun w => ?_)
          obtain ⟨r2, j2, tg2⟩ := FR_r hP1 f2
          have tb := Tb_l hP5 al.1 ln (t := l) (Int.le_refl _)
          have r0 := (tb.r (m := P) hP5 (i := 0) (by decide) (by decide)).1
          have l0 := (spn_le (T := lsm P (tq P T a) c l) (P := P) (j := 0) (by decide) (by omega)).1
          have c0 : c' 0 < P := Classical.byContradiction (fun u => tg2.1 0 (by decide) (by omega) u (by omega))
          have p0 := (r2 0 (by decide) (by omega)).2.2 c0
          have o0 := (r2 0 (by decide) (by omega)).1
          have one := Sg_one (f := lsm P (tq P T a) c l 0) (k := P) (fun y y0 y1 => (tb 0 y (by decide) (by decide) y0 (by omega)).1) o0 c0
          have e : rs (lsm P (tq P T a) c l) P 0 = Sg (lsm P (tq P T a) c l 0) P := sm_Sg P
          omega
        obtain ⟨r2, j2, tg2⟩ := FR_r hP1 f2
        obtain ⟨x, x0, x1, q⟩ := FR_next hP1 hs fc ln w f2
        refine ⟨x, ⟨x0, x1⟩, ?_⟩
        rw [show (60 : Int) + ((k + 1 : Nat) : Int) = 61 + k by omega, gx x x0 x1]
        exact mr_ne x1 ⟨(rok x x0 x1).1, (rok x x0 x1).2.1⟩ ⟨(r2 x x0 x1).1, (r2 x x0 x1).2.1⟩ q
      · rw [et, f14 _ _ (by omega) (by omega) (by omega) (by omega), e12, zu_na (by omega)]
        exact hm9 i o i0 i1 o0 o1
      · rw [et, e15, zu_na (by decide), zu_na (by decide)]
        exact ad1 i i0 i1
      · rw [et, e15, zu_ne (by decide)]
        exact ad2
      · rw [f14 a j (by omega) (by omega) (by omega) (by omega), f12 a j (by omega) (by omega) (by omega) (by omega)]
        exact hf a j q1 q2 q3
end T91
