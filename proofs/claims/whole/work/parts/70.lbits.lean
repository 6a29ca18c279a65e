section T30
variable {G : zG} {n : Nat} {μ ν : zM}
/-- bit r of a long -/
def lb (x : Int) (r : Nat) : Bool := (BitVec.ofInt 64 x).getLsbD r
theorem ofI64 (x : Int64) : BitVec.ofInt 64 x.toInt = x.toBitVec := by
  show BitVec.ofInt 64 x.toBitVec.toInt = x.toBitVec
  exact BitVec.ofInt_toInt
theorem lb_and (a b : Int) (r : Nat) : lb (zland a b) r = (lb a r && lb b r) := by
  unfold lb zland
  rw [ofI64, Int64.toBitVec_and, BitVec.getLsbD_and, Int64.toBitVec_ofInt, Int64.toBitVec_ofInt]
theorem lb_or (a b : Int) (r : Nat) : lb (zlor a b) r = (lb a r || lb b r) := by
  unfold lb zlor
  rw [ofI64, Int64.toBitVec_or, BitVec.getLsbD_or, Int64.toBitVec_ofInt, Int64.toBitVec_ofInt]
theorem lb_xor (a b : Int) (r : Nat) : lb (zlxor a b) r = (lb a r ^^ lb b r) := by
  unfold lb zlxor
  rw [ofI64, Int64.toBitVec_xor, BitVec.getLsbD_xor, Int64.toBitVec_ofInt, Int64.toBitVec_ofInt]
theorem lb_m1 {r : Nat} (h : r < 64) : lb (-1) r = true := by
  unfold lb
  rw [show BitVec.ofInt 64 (-1) = BitVec.allOnes 64 by decide, BitVec.getLsbD_allOnes]
  exact decide_eq_true h
theorem lb_0 (r : Nat) : lb 0 r = false := by
  unfold lb
  rw [show BitVec.ofInt 64 0 = 0#64 by decide, BitVec.getLsbD_zero]
theorem lc_0 (x : Int) : wr (zlcmp x 0) = 0 ↔ ∀ r, r < 64 → lb x r = false := by
  have e : wr (zlcmp x 0) = 0 ↔ Int64.ofInt x = 0 := by
    unfold zlcmp lg_cmp
    rw [show Int64.ofInt 0 = 0 by decide]
    by_cases c : Int64.ofInt x > 0
    · rw [if_pos c]
      refine ⟨fun q => absurd q (by decide), fun q => ?_⟩
      rw [q] at c; exact absurd c (by decide)
    · rw [if_neg c]
      by_cases d : Int64.ofInt x = 0
      · rw [if_pos d]; exact ⟨fun _ => d, fun _ => by decide⟩
      · rw [if_neg d]; exact ⟨fun q => absurd q (by decide), fun q => absurd q d⟩
  rw [e]
  constructor
  · intro q r hr
    unfold lb
    rw [← Int64.toBitVec_ofInt, q]
    show BitVec.getLsbD 0#64 r = false
    exact BitVec.getLsbD_zero
  · intro q
    rw [← Int64.toBitVec_inj, Int64.toBitVec_ofInt]
    apply BitVec.eq_of_getLsbD_eq
    intro i hi
    rw [show (0 : Int64).toBitVec = 0#64 from rfl, BitVec.getLsbD_zero]
    exact q i hi
theorem lrows : ∀ k : Fin 6, ∀ r : Fin 64, lb (zrows k.val) r.val = (r.val).testBit k.val := by decide +kernel
theorem lrows2 : ∀ k : Fin 6, ∀ w : Fin 4, ∀ r : Fin 64, (64 * w.val + r.val).testBit k.val = (r.val).testBit k.val := by decide +kernel
theorem lrows3 : ∀ k : Fin 2, ∀ w : Fin 4, ∀ r : Fin 64, lb (-(wr (zand (zshr (w.val : Int) (k.val : Int)) 1))) r.val = (64 * w.val + r.val).testBit (6 + k.val) := by decide +kernel
/-- how many words the rows take -/
def wds (W : Int) : Int := if W = 7 then 2 else if W = 8 then 4 else 1
theorem c0_words (hn : 45 ≤ n) {W : Int} (hW : μ 30 0 = W) (h2 : 2 ≤ W) (h8 : W ≤ 8) {K : Int → zM → Prop} (hK : K (wds W) μ) : mX0_words G n μ K := by
  refine eX0_words hn ?_
  rw [hW]
  have : W = 2 ∨ W = 3 ∨ W = 4 ∨ W = 5 ∨ W = 6 ∨ W = 7 ∨ W = 8 := by omega
  have e : max (wr 1) (wr (zdiv (zshl 1 W) 64)) = wds W := by rcases this with rfl | rfl | rfl | rfl | rfl | rfl | rfl <;> decide +kernel
  rw [e]; exact hK
theorem wds_r {W : Int} : 1 ≤ wds W ∧ wds W ≤ 4 := by
  unfold wds
  repeat' split
  all_goals omega
theorem zk37 {k : Int} (h0 : 0 ≤ k) (h1 : k < 8) : zk (37 + k) = 1 ∧ (zn (37 + k) : Int) = 4 := by
  have : ∀ x : Fin 8, zk (37 + (x.val : Int)) = 1 ∧ (zn (37 + (x.val : Int)) : Int) = 4 := by decide +kernel
  have := this ⟨k.toNat, by omega⟩
  rwa [fv h0 h1] at this
/-- what the rows have on the wires, all laid -/
theorem c0_layAll (hn : 45 ≤ n) {W : Int} (hW : μ 30 0 = W) (h2 : 2 ≤ W) (h8 : W ≤ 8) {K : zM → Prop}
    (hK : ∀ ν : zM, (∀ k w : Int, 0 ≤ k → k < W → 0 ≤ w → w < wds W → ∀ r : Nat, r < 64 → lb (ν (37 + k) w) r = (64 * w.toNat + r).testBit k.toNat) → (∀ a j, ¬ (37 ≤ a ∧ a ≤ 44) → ν a j = μ a j) → K ν) : mX0_layAllRows G n μ K := by
  have wr4 := wds_r (W := W)
  have inner : ∀ (k : Int), 0 ≤ k → k < W → ∀ (g : Nat) (w : Int) (ν : zM), 0 ≤ w → w + g = wds W → (∀ k' w', 0 ≤ k' → k' < W → 0 ≤ w' → w' < wds W → (k' < k ∨ (k' = k ∧ w' < w)) → ∀ r : Nat, r < 64 → lb (ν (37 + k') w') r = (64 * w'.toNat + r).testBit k'.toNat) → (∀ a j, ¬ (37 ≤ a ∧ a ≤ 44) → ν a j = μ a j) →
      (∀ ν : zM, (∀ k' w', 0 ≤ k' → k' < W → 0 ≤ w' → w' < wds W → k' < k + 1 → ∀ r : Nat, r < 64 → lb (ν (37 + k') w') r = (64 * w'.toNat + r).testBit k'.toNat) → (∀ a j, ¬ (37 ≤ a ∧ a ≤ 44) → ν a j = μ a j) → pX0_layAllRows G n K 7 [some (Rv G 30), some (Iv 6), some (Iv (k + 1)), none] [] ν) →
      pX0_layAllRows G n K 17 [some (Rv G 30), some (Iv 6), some (Iv k), some (Iv w)] [] ν := by
    intro k k0 k1 g
    induction g with
    | zero =>
      intro w ν w0 w1 h1 hf nx
      refine bX0_layAllRows_17 hn (c0_words hn (by rw [hf _ _ (by omega)]; exact hW) h2 h8 ?_)
      simp (disch := omega) only [wr_of]
      exact ⟨fun _ => nx ν (fun k' w' a b c d e => h1 k' w' a b c d (by omega)) hf, fun z => by omega⟩
    | succ g ih =>
      intro w ν w0 w1 h1 hf nx
      refine bX0_layAllRows_17 hn (c0_words hn (by rw [hf _ _ (by omega)]; exact hW) h2 h8 ?_)
      rw [show (36 : Int) + 1 = 37 from rfl]
      simp (disch := omega) only [wr_of]
      have step : ∀ v : Int, (∀ r : Nat, r < 64 → lb v r = (64 * w.toNat + r).testBit k.toNat) → pX0_layAllRows G n K 17 [some (Rv G 30), some (Iv 6), some (Iv k), some (Iv (w + 1))] [] (zu ν (37 + k) w v) := by
        intro v hv
        refine ih (w + 1) _ (by omega) (by omega) (fun k' w' a b c d e r hr => ?_) (fun a j q => ?_) nx
        · by_cases c1 : k' = k ∧ w' = w
          · rw [c1.1, c1.2, zu_same]; exact hv r hr
          · rw [zu_ne (by omega)]
            exact h1 k' w' a b c d (by omega) r hr
        · rw [zu_na (by omega)]; exact hf a j q
      refine ⟨fun z => by omega, fun _ => ⟨by omega, fun z => ⟨by omega, fun μ7 e7 => ?_⟩, fun z => ⟨by omega, by omega, fun μ7 e7 => ?_⟩⟩⟩
      · rw [e7]
        refine step _ (fun r hr => ?_)
        have := lrows3 ⟨(k - 6).toNat, by omega⟩ ⟨w.toNat, by omega⟩ ⟨r, hr⟩
        rw [fv w0 (by omega), fv (show 0 ≤ k - 6 by omega) (by omega)] at this
        rw [this]
        congr 1
        simp only
        omega
      · rw [e7]
        refine step _ (fun r hr => ?_)
        rw [lrows ⟨k.toNat, by omega⟩ ⟨r, hr⟩, lrows2 ⟨k.toNat, by omega⟩ ⟨w.toNat, by omega⟩ ⟨r, hr⟩]
  have outer : ∀ (g : Nat) (k : Int) (ν : zM), 0 ≤ k → k + g = W → (∀ k' w', 0 ≤ k' → k' < W → 0 ≤ w' → w' < wds W → k' < k → ∀ r : Nat, r < 64 → lb (ν (37 + k') w') r = (64 * w'.toNat + r).testBit k'.toNat) → (∀ a j, ¬ (37 ≤ a ∧ a ≤ 44) → ν a j = μ a j) → pX0_layAllRows G n K 7 [some (Rv G 30), some (Iv 6), some (Iv k), none] [] ν := by
    intro g
    induction g with
    | zero =>
      intro k ν k0 k1 h1 hf
      refine bX0_layAllRows_7 hn ?_
      rw [hf 30 0 (by decide), hW]
      simp (disch := omega) only [wr_of]
      exact ⟨fun _ => hK ν (fun k' w' a b c d => h1 k' w' a b c d (by omega)) hf, fun z => by omega⟩
    | succ g ih =>
      intro k ν k0 k1 h1 hf
      refine bX0_layAllRows_7 hn ?_
      rw [hf 30 0 (by decide), hW]
      simp (disch := omega) only [wr_of]
      refine ⟨fun z => by omega, fun _ => inner k k0 (by omega) (wds W).toNat 0 ν (by decide) (by omega) (fun k' w' a b c d e => h1 k' w' a b c d (by omega)) hf (fun ν' q1 q2 => ih (k + 1) ν' (by omega) (by omega) q1 q2)⟩
  exact eX0_layAllRows hn (outer W.toNat 0 μ (by decide) (by omega) (fun k' w' a b c d e => by omega) (fun _ _ _ => rfl))
end T30
