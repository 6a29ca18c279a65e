section T72
variable {G : zG} {n : Nat} {μ ν κ : zM}
def Um (m : Int) : Int → Bool := fun o => decide (¬ wr (zand (zshr m o) 1) = 0)
theorem um_f : ∀ (m : Fin 32) (o o2 : Fin 5), Um (zor (m.1 : Int) (zshl 1 (o.1 : Int))) (o2.1 : Int) = if (o2.1 : Int) = o.1 then true else Um (m.1 : Int) (o2.1 : Int) := by decide +kernel
theorem zs_f : ∀ (P : Fin 6), 1 ≤ zshl 1 (P.1 : Int) ∧ zshl 1 (P.1 : Int) ≤ 32 := by decide +kernel
theorem or_f : ∀ (P : Fin 6) (m : Fin 32) (o : Fin 5), (m.1 : Int) < zshl 1 (P.1 : Int) → (o.1 : Int) < P.1 → 0 ≤ zor (m.1 : Int) (zshl 1 (o.1 : Int)) ∧ zor (m.1 : Int) (zshl 1 (o.1 : Int)) < zshl 1 (P.1 : Int) := by decide +kernel
theorem um_or {m o o2 : Int} (m0 : 0 ≤ m) (m1 : m < 32) (o0 : 0 ≤ o) (o1 : o < 5) (p0 : 0 ≤ o2) (p1 : o2 < 5) : Um (zor m (zshl 1 o)) o2 = upU (Um m) o o2 := by
  have := um_f ⟨m.toNat, by omega⟩ ⟨o.toNat, by omega⟩ ⟨o2.toNat, by omega⟩
  simp only [Int.toNat_of_nonneg m0, Int.toNat_of_nonneg o0, Int.toNat_of_nonneg p0] at this
  exact this
theorem zs_r {P : Int} (p0 : 0 ≤ P) (p1 : P ≤ 5) : 1 ≤ zshl 1 P ∧ zshl 1 P ≤ 32 := by
  have := zs_f ⟨P.toNat, by omega⟩
  simp only [Int.toNat_of_nonneg p0] at this
  exact this
theorem or_r {P m o : Int} (p0 : 0 ≤ P) (p1 : P ≤ 5) (m0 : 0 ≤ m) (m1 : m < zshl 1 P) (o0 : 0 ≤ o) (o1 : o < P) : 0 ≤ zor m (zshl 1 o) ∧ zor m (zshl 1 o) < zshl 1 P := by
  have zz := zs_r p0 p1
  have := or_f ⟨P.toNat, by omega⟩ ⟨m.toNat, by omega⟩ ⟨o.toNat, by omega⟩
  simp only [Int.toNat_of_nonneg m0, Int.toNat_of_nonneg o0, Int.toNat_of_nonneg p0] at this
  exact this m1 o1
def Ey (ok : Int → Bool) (x : Int → Int) (B o P : Int) : Prop := ∃ y, o ≤ y ∧ y < P ∧ ok y = true ∧ x y = B
/-- the sums as the class keeps them, from row i on -/
def BS (P : Int) (Q : Int → Int → Int) (k : Int) (κ : zM) : Prop := ∀ i m, k ≤ i → i ≤ P → 0 ≤ m → m < zshl 1 P → κ (112 + i) m = bv P Q (P - i).toNat i (Um m)
theorem c4_sumWith (hn : 154 ≤ n) {P : Int} {Q : Int → Int → Int} (q : Qk P Q) (hQ : ∀ i o, 0 ≤ i → i < 5 → 0 ≤ o → o < 5 → κ (101 + i) o = Q i o) {i o m : Int} (i0 : 0 ≤ i) (i1 : i < P) (o0 : 0 ≤ o) (o1 : o < P) (m0 : 0 ≤ m) (m1 : m < zshl 1 P) (bs : BS P Q (i + 1) κ) {K : Int → zM → Prop} (hK : K (xv P Q (P - (i + 1)).toNat i (Um m) o) κ) : mX4_sumWith G n i o m κ K := by
  have hp := q.1
  have zz := zs_r (P := P) (by omega) hp.2
  have orr := or_r (P := P) (by omega) hp.2 m0 m1 o0 o1
  refine eX4_sumWith (by omega) ?_
  rw [show (100 : Int) + 1 = 101 from rfl, show (111 : Int) + 1 = 112 from rfl]
  simp (disch := omega) only [wr_of]
  refine ⟨by omega, by omega, by omega, by omega, ?_⟩
  have e1 := bs (i + 1) (zor m (zshl 1 o)) (by omega) (by omega) orr.1 orr.2
  have e2 : bv P Q (P - (i + 1)).toNat (i + 1) (Um (zor m (zshl 1 o))) = bv P Q (P - (i + 1)).toNat (i + 1) (upU (Um m) o) := bv_c hp.1 _ _ _ _ (fun x x0 x1 => um_or m0 (by omega) o0 (by omega) x0 (by omega))
  have e3 : rvl P Q i o = Q i o := by unfold rvl; rw [if_pos o1]
  rw [hQ i o i0 (by omega) o0 (by omega), e1, e2, ← e3]
  exact hK
theorem c4_sums (hn : 154 ≤ n) {P : Int} {Q : Int → Int → Int} (q : Qk P Q) (h99 : κ 99 0 = P) (hQ : ∀ i o, 0 ≤ i → i < 5 → 0 ≤ o → o < 5 → κ (101 + i) o = Q i o) {K : zM → Prop} (hK : ∀ κ', BS P Q 0 κ' → (∀ a j, ¬ (112 ≤ a ∧ a ≤ 117) → κ' a j = κ a j) → K κ') : mX4_findBestSums G n κ K := by
  have hp := q.1
  have zz := zs_r (P := P) (by omega) hp.2
  have hT : ∀ i o, 0 ≤ i → i < P → 0 ≤ o → o < P → 0 ≤ Q i o ∧ Q i o ≤ 1000 := fun i o i0 i1 o0 o1 => ⟨(q.2 i o i0 (by omega) o0 (by omega)).1, (q.2 i o i0 (by omega) o0 (by omega)).2.1⟩
  have rows : ∀ (k : Nat) (κ1 : zM), (k : Int) ≤ P → BS P Q k κ1 → (∀ a j, ¬ (112 ≤ a ∧ a ≤ 117) → κ1 a j = κ a j) → pX4_findBestSums G n K 20 [some (Rv G 99), some (Iv ((k : Int) - 1)), none, none, none] [] κ1 := by
    intro k
    induction k with
    | zero =>
      intro κ1 kP bs hf
      refine bX4_findBestSums_20 (by omega) ?_
      simp (disch := omega) only [wr_of]
      exact ⟨fun _ => hK κ1 bs hf, fun z => by omega⟩
    | succ k ih =>
      intro κ1 kP bs hf
      have ek : ((k + 1 : Nat) : Int) - 1 = k := by omega
      rw [ek]
      -- the masks
      have masks : ∀ (g : Nat) (m : Int) (κ2 : zM), 0 ≤ m → m + g = zshl 1 P → BS P Q (k + 1 : Nat) κ2 → (∀ y, 0 ≤ y → y < m → κ2 (112 + k) y = bv P Q (P - k).toNat k (Um y)) → (∀ a j, ¬ (112 ≤ a ∧ a ≤ 117) → κ2 a j = κ a j) → pX4_findBestSums G n K 26 [some (Rv G 99), some (Iv (k : Int)), some (Iv m), none, none] [] κ2 := by
        intro g
        induction g with
        | zero =>
          intro m κ2 m0 em bs2 hd hf2
          refine bX4_findBestSums_26 (by omega) ?_
          rw [hf2 99 0 (by omega), h99]
          simp (disch := omega) only [wr_of]
          refine ⟨fun _ => ?_, fun z => by omega⟩
          have := ih κ2 (by omega) (fun i y a b y0 y1 => ?_) hf2
          · rw [show (k : Int) + -1 = (k : Int) - 1 by omega]; exact this
          · by_cases e : i = k
            · rw [e]; exact hd y y0 (by omega)
            · exact bs2 i y (by omega) b y0 y1
        | succ g ihg =>
          intro m κ2 m0 em bs2 hd hf2
          have m1 : m < zshl 1 P := by omega
          have b1 := bs2 (k + 1) m (by omega) (by omega) m0 m1
          have hQ2 : ∀ i o, 0 ≤ i → i < 5 → 0 ≤ o → o < 5 → κ2 (101 + i) o = Q i o := fun i o i0 i1 o0 o1 => by rw [hf2 _ _ (by omega)]; exact hQ i o i0 i1 o0 o1
          have eg : (P - (k : Int)).toNat = (P - ((k : Int) + 1)).toNat + 1 := by omega
          have eB : bv P Q (P - (k : Int)).toNat k (Um m) = (bw (okU P Q k (Um m)) (xv P Q (P - ((k : Int) + 1)).toNat k (Um m)) (P + 1).toNat 0).1 := by rw [eg]; rfl
          have rB := bv_0 hp.1 hT (P - (k : Int)).toNat k (Um m) (by omega) (by omega)
          have fB := bw_f (ok := okU P Q k (Um m)) (x := xv P Q (P - ((k : Int) + 1)).toNat k (Um m)) (P + 1).toNat 0
          have lB := bw_le (ok := okU P Q k (Um m)) (x := xv P Q (P - ((k : Int) + 1)).toNat k (Um m)) (P + 1).toNat 0
          have xP : xv P Q (P - ((k : Int) + 1)).toNat k (Um m) P = bv P Q (P - ((k : Int) + 1)).toNat (k + 1) (Um m) := by
            unfold xv rvl
            rw [if_neg (by omega), Int.zero_add]
            exact bv_c hp.1 _ _ _ _ (fun x x0 x1 => by unfold upU; rw [if_neg (by omega)])
          have rP := bv_0 hp.1 hT (P - ((k : Int) + 1)).toNat (k + 1) (Um m) (by omega) (by omega)
          have lP := lB P (by omega) (by omega) (decide_eq_true (Or.inl rfl))
          rw [← eB] at fB lB lP
          rw [xP] at lP
          generalize hBB : bv P Q (P - (k : Int)).toNat k (Um m) = B at *
          have outs : ∀ (g2 : Nat) (o x : Int), 0 ≤ o → o + g2 = P → 0 ≤ x → x ≤ B → (x = B ∨ Ey (okU P Q k (Um m)) (xv P Q (P - ((k : Int) + 1)).toNat k (Um m)) B o P) → pX4_findBestSums G n K 50 [some (Rv G 99), some (Iv (k : Int)), some (Iv m), some (Iv x), some (Iv o)] [] κ2 := by
            intro g2
            induction g2 with
            | zero =>
              intro o x o0 eo x0 xB hx
              have ex : x = B := by
                rcases hx with h | ⟨y, h1, h2, _⟩
                · exact h
                · omega
              refine bX4_findBestSums_50 (by omega) ?_
              rw [hf2 99 0 (by omega), h99, show (111 : Int) + 1 = 112 from rfl]
              simp (disch := omega) only [wr_of]
              refine ⟨fun _ => ⟨by omega, by omega, fun μ4 e4 => ihg (m + 1) μ4 (by omega) (by omega) (fun i y a b y0 y1 => ?_) (fun y y0 y1 => ?_) (fun a j w => ?_)⟩, fun z => by omega⟩
              · rw [e4, zu_na (by omega)]; exact bs2 i y a b y0 y1
              · rw [e4]; unfold zu
                by_cases e : y = m
                · rw [if_pos ⟨rfl, e⟩, e, hBB]; exact ex
                · rw [if_neg (fun u => e u.2)]; exact hd y y0 (by omega)
              · rw [e4, zu_na (by omega)]; exact hf2 a j w
            | succ g2 ih2 =>
              intro o x o0 eo x0 xB hx
              have qo := hT k o (by omega) (by omega) o0 (by omega)
              have skip : okU P Q k (Um m) o = false → (x = B ∨ Ey (okU P Q k (Um m)) (xv P Q (P - ((k : Int) + 1)).toNat k (Um m)) B (o + 1) P) := fun no => by
                rcases hx with h | ⟨y, h1, h2, h3, h4⟩
                · exact Or.inl h
                · by_cases e : y = o
                  · rw [e, no] at h3; exact absurd h3 (by decide)
                  · exact Or.inr ⟨y, by omega, h2, h3, h4⟩
              refine bX4_findBestSums_50 (by omega) ?_
              rw [hf2 99 0 (by omega), h99, show (100 : Int) + 1 = 101 from rfl]
              simp (disch := omega) only [wr_of]
              rw [hQ2 k o (by omega) (by omega) o0 (by omega)]
              simp (disch := omega) only [wr_of]
              refine ⟨fun z => by omega, fun _ => ⟨fun z => ih2 (o + 1) x (by omega) (by omega) x0 xB (skip (decide_eq_false (fun w => ?_))), fun z => ⟨by omega, by omega, fun z2 => ih2 (o + 1) x (by omega) (by omega) x0 xB (skip (decide_eq_false (fun w => ?_))), fun z2 => c4_sumWith hn q hQ2 (by omega) (by omega) o0 (by omega) m0 m1 bs2 (fun v11 e11 => ?_)⟩⟩⟩
              · rcases w with w | w
                · omega
                · have : Um m o = true := decide_eq_true z
                  rw [this] at w; exact absurd w.2 (by decide)
              · rcases w with w | w
                · omega
                · have := w.1; omega
              · have uo : Um m o = false := decide_eq_false (fun w => w z)
                have ok : okU P Q k (Um m) o = true := decide_eq_true (Or.inr ⟨by omega, uo⟩)
                have xo := lB o (by omega) (by omega) ok
                have x00 : 0 ≤ xv P Q (P - ((k : Int) + 1)).toNat k (Um m) o := by
                  have t := bv_0 hp.1 hT (P - ((k : Int) + 1)).toNat (k + 1) (upU (Um m) o) (by omega) (by omega)
                  unfold xv rvl; rw [if_pos (by omega)]; omega
                generalize hxo : xv P Q (P - ((k : Int) + 1)).toNat k (Um m) o = xo1 at *
                simp (disch := omega) only [wr_of] at e11
                have hm : v11 = x ∧ xo1 ≤ x ∨ v11 = xo1 ∧ x ≤ xo1 := by
                  rw [e11, Int.max_def]; split <;> omega
                refine ih2 (o + 1) v11 (by omega) (by omega) (by omega) (by omega) ?_
                rcases hx with h | ⟨y, h1, h2, h3, h4⟩
                · exact Or.inl (by omega)
                · by_cases e : y = o
                  · rw [e, hxo] at h4; exact Or.inl (by omega)
                  · exact Or.inr ⟨y, by omega, h2, h3, h4⟩
          refine bX4_findBestSums_26 (by omega) ?_
          rw [hf2 99 0 (by omega), h99, show (111 : Int) + 1 = 112 from rfl]
          simp (disch := omega) only [wr_of]
          refine ⟨fun z => by omega, fun _ => ⟨by omega, by omega, fun v4 e4 => ?_⟩⟩
          rw [b1] at e4
          refine outs P.toNat 0 v4 (by decide) (by omega) (by omega) (by omega) ?_
          rcases fB with f | ⟨f1, f2, f3, f4⟩
          · omega
          · generalize (bw (okU P Q k (Um m)) (xv P Q (P - ((k : Int) + 1)).toNat k (Um m)) (P + 1).toNat 0).2 = u at *
            by_cases e : u = P
            · rw [e, xP] at f4; exact Or.inl (by omega)
            · exact Or.inr ⟨u, f1, by omega, f3, f4⟩
      refine bX4_findBestSums_20 (by omega) ?_
      simp (disch := omega) only [wr_of]
      exact ⟨fun z => by omega, fun _ => masks (zshl 1 P).toNat 0 κ1 (by decide) (by omega) bs (fun y y0 y1 => by omega) hf⟩
  refine eX4_findBestSums (by omega) ?_
  rw [h99, show (111 : Int) + 1 = 112 from rfl]
  simp (disch := omega) only [wr_of]
  have zq : ∀ p : Fin 6, zk (112 + (p.1 : Int)) = 0 ∧ (zn (112 + (p.1 : Int)) : Int) = 32 := by decide
  have zP := zq ⟨P.toNat, by omega⟩
  simp only [Int.toNat_of_nonneg (show 0 ≤ P by omega)] at zP
  refine ⟨by omega, c_fill ⟨by omega, by omega, zP.1⟩ ?_⟩
  rw [zP.2]
  intro v4 e4
  have f99 : zfill κ (112 + P) 32 0 99 0 = P := by unfold zfill; rw [if_neg (by omega)]; exact h99
  rw [f99] at e4
  have := rows P.toNat (zfill κ (112 + P) 32 0) (by omega) (fun i m a b m0 m1 => ?_) (fun a j w => by unfold zfill; rw [if_neg (by omega)])
  · rw [e4]
    rw [show ((P.toNat : Nat) : Int) = P by omega] at this
    exact this
  · have : i = P := by omega
    subst this
    unfold zfill
    rw [if_pos ⟨rfl, m0, by omega⟩, show (i - i).toNat = 0 by omega]
    rfl
end T72
