section T37
variable {G : zG} {n : Nat} {μ ν : zM}
theorem first_ex {p : Nat → Bool} : ∀ n, ¬ (∀ r, r < n → p r = false) → ∃ k, k < n ∧ p k = true ∧ ∀ j, j < k → p j = false := by
  intro n
  induction n with
  | zero => intro h; exact absurd (fun r hr => absurd hr (by omega)) h
  | succ n ih =>
    intro h
    by_cases c : ∀ r, r < n → p r = false
    · refine ⟨n, by omega, ?_, c⟩
      cases d : p n with
      | true => rfl
      | false =>
        refine absurd (fun r hr => ?_) h
        by_cases e : r = n
        · rw [e]; exact d
        · exact c r (by omega)
    · obtain ⟨k, a, b, c⟩ := ih c
      exact ⟨k, by omega, b, c⟩
theorem cq_lt (k : Nat) : ∀ n, cq (fun i => decide (i < k)) n = min k n
  | 0 => by simp [cq]
  | n + 1 => by
    simp only [cq]
    rw [cq_lt k n]
    by_cases c : n < k
    · rw [if_pos (by simpa using c)]; omega
    · rw [if_neg (by simpa using c)]; omega
/-- whether a row falls somewhere on the first wires -/
def uw (σ : Int → Bool) : Nat → Bool
  | 0 => false
  | k + 1 => uw σ k || (σ k && !σ ((k : Int) + 1))
theorem uw_cong {σ τ : Int → Bool} : ∀ k : Nat, (∀ j : Int, 0 ≤ j → j ≤ k → σ j = τ j) → uw σ k = uw τ k
  | 0, _ => rfl
  | k + 1, h => by
    simp only [uw]
    rw [uw_cong k (fun j a b => h j a (by omega)), h k (by omega) (by omega), h (k + 1) (by omega) (by omega)]
/-- row q comes out not in order -/
def pq (A B : Int → Int) (W : Int) (C q : Nat) : Bool := decide (q < 2 ^ W.toNat) && uw (thr A B C (rwq q)) (W - 1).toNat
theorem msk : ∀ k : Fin 6, ∀ r : Fin 64, lb (zlshl 1 (zshl 1 (k.val : Int)) - 1) r.val = decide (r.val < 2 ^ k.val) := by decide +kernel
theorem c0_unsorted (hn : 154 ≤ n) (h : I3 μ) {w : Int} (w0 : 0 ≤ w) (w1 : w < wds (μ 30 0)) {K : Int → zM → Prop} (hK : ∀ x : Int, (∀ r : Nat, r < 64 → lb x r = pq (μ 31) (μ 32) (μ 30 0) (μ 30 1).toNat (64 * w.toNat + r)) → K x μ) : mX0_unsortedIn G n w μ K := by
  obtain ⟨b, l⟩ := id h
  have b0 := b.1
  have w4 := wds_r (W := μ 30 0)
  have rn := rows_n b0.2.1 b0.2.2
  have key : ∀ (g k : Nat) (x : Int), (k : Int) + g = μ 30 0 - 1 → (∀ r : Nat, r < 64 → lb x r = uw (thr (μ 31) (μ 32) (μ 30 1).toNat (rwq (64 * w.toNat + r))) k) → pX0_unsortedIn G n K 5 [some (Rv G 30), some (Iv w), some (Lv x), none, some (Iv k)] [] μ := by
    intro g
    induction g with
    | zero =>
      intro k x ek hx
      have ek : (μ 30 0 - 1).toNat = k := by omega
      refine bX0_unsortedIn_5 (by omega) ?_
      simp (disch := omega) only [wr_of]
      refine ⟨fun _ v2 e2 => ?_, fun z => by omega⟩
      rw [rn.2.1] at e2
      rw [e2]
      simp (disch := omega) only [wr_of]
      refine ⟨fun z => hK x (fun r hr => ?_), fun z => hK _ (fun r hr => ?_)⟩
      · unfold pq
        rw [ek, hx r hr]
        have : μ 30 0 = 6 ∨ μ 30 0 = 7 ∨ μ 30 0 = 8 := by
          have : μ 30 0 = 2 ∨ μ 30 0 = 3 ∨ μ 30 0 = 4 ∨ μ 30 0 = 5 ∨ μ 30 0 = 6 ∨ μ 30 0 = 7 ∨ μ 30 0 = 8 := by omega
          rcases this with q | q | q | q | q | q | q <;> first | (exfalso; rw [q] at z; exact absurd z (by decide)) | omega
        have lt : 64 * w.toNat + r < 2 ^ (μ 30 0).toNat := by
          rcases this with q | q | q <;> rw [q] at w1 ⊢
          · have : wds 6 = 1 := rfl
            have : (2 : Nat) ^ (6 : Int).toNat = 64 := rfl
            omega
          · have : wds 7 = 2 := rfl
            have : (2 : Nat) ^ (7 : Int).toNat = 128 := rfl
            omega
          · have : wds 8 = 4 := rfl
            have : (2 : Nat) ^ (8 : Int).toNat = 256 := rfl
            omega
        rw [decide_eq_true lt, Bool.true_and]
      · have q6 : μ 30 0 < 6 := by
          have : μ 30 0 = 2 ∨ μ 30 0 = 3 ∨ μ 30 0 = 4 ∨ μ 30 0 = 5 ∨ μ 30 0 = 6 ∨ μ 30 0 = 7 ∨ μ 30 0 = 8 := by omega
          rcases this with q | q | q | q | q | q | q <;> first | omega | (exfalso; rw [q] at z; exact absurd (by decide) z)
        have wd1 : wds (μ 30 0) = 1 := by unfold wds; rw [if_neg (by omega), if_neg (by omega)]
        have m := msk ⟨(μ 30 0).toNat, by omega⟩ ⟨r, hr⟩
        rw [fv (by omega) (by omega), rn.2.1] at m
        simp only at m
        rw [lb_and, m, hx r hr]
        unfold pq
        rw [ek, show 64 * w.toNat + r = r by omega, Bool.and_comm]
    | succ g ih =>
      intro k x ek hx
      refine bX0_unsortedIn_5 (by omega) ?_
      rw [show (36 : Int) + 1 = 37 from rfl]
      simp (disch := omega) only [wr_of]
      refine ⟨fun z => by omega, fun _ => ⟨by omega, by omega, by omega, by omega, fun v8 e8 => ih (k + 1) v8 (by omega) (fun r hr => ?_)⟩⟩
      rw [e8, lb_or, lb_and, lb_xor, lb_m1 hr, Bool.xor_true, hx r hr, l.2.2 k w (by omega) (by omega) w0 w1 r hr, l.2.2 (k + 1) w (by omega) (by omega) w0 w1 r hr]
      rfl
  exact eX0_unsortedIn (by omega) (key (μ 30 0 - 1).toNat 0 0 (by omega) (fun r hr => by rw [lb_0]; rfl))
/-- v is the least number with a property, or -9 -/
def Lst (p : Nat → Bool) (R : Nat) (v : Int) : Prop := (v = -9 ∧ ∀ q, q < R → p q = false) ∨ ∃ q : Nat, q < R ∧ v = q ∧ p q = true ∧ ∀ j, j < q → p j = false
theorem Lst.one {p : Nat → Bool} {R : Nat} {v w : Int} (h1 : Lst p R v) (h2 : Lst p R w) : v = w := by
  rcases h1 with ⟨a, b⟩ | ⟨q, a, b, c, d⟩
  · rcases h2 with ⟨a', b'⟩ | ⟨q', a', b', c', d'⟩
    · omega
    · rw [b q' a'] at c'; cases c'
  · rcases h2 with ⟨a', b'⟩ | ⟨q', a', b', c', d'⟩
    · rw [b' q a] at c; cases c
    · have : q = q' := by
        by_cases x : q < q'
        · rw [d' q x] at c; cases c
        · by_cases y : q' < q
          · rw [d q' y] at c'; cases c'
          · omega
      omega
theorem low_x {x : Int} {k : Nat} (hk : k < 64) (h1 : lb x k = true) (h0 : ∀ j, j < k → lb x j = false) : pcn (Nl ((zland x (-x)) - 1)) 64 = k := by
  have hX := Nl_lt x
  have ne : Nl x ≠ 0 := fun q => by
    rw [lb_N, q, Nat.zero_testBit] at h1; cases h1
  have en : Nl (-x) = 2 ^ 64 - Nl x := by
    unfold Nl at ne hX ⊢
    rw [BitVec.ofInt_neg, BitVec.toNat_neg]
    omega
  have e1 : Nl (zland x (-x)) = 2 ^ k := by rw [Nl_and, en]; exact low_bit (Nl x) k hX h1 h0
  have n1 : Nl 1 = 1 := by decide
  have p := Nat.two_pow_pos k
  have e2 : Nl ((zland x (-x)) - 1) = 2 ^ k - 1 := by rw [Nl_sub (by rw [e1, n1]; omega), e1, n1]
  rw [e2, pcn_cq, cq_ext (q := fun i => decide (i < k)) 64 (fun i _ => Nat.testBit_two_pow_sub_one k i), cq_lt]
  omega
theorem c0_first (hn : 154 ≤ n) (h : I3 μ) {K : Int → zM → Prop} (hK : ∀ v : Int, Lst (pq (μ 31) (μ 32) (μ 30 0) (μ 30 1).toNat) (64 * (wds (μ 30 0)).toNat) v → K v μ) : mX0_firstUnsorted G n μ K := by
  have b0 := h.1.1
  have w4 := wds_r (W := μ 30 0)
  have key : ∀ (g w : Nat), (w : Int) + g = wds (μ 30 0) → (∀ q, q < 64 * w → pq (μ 31) (μ 32) (μ 30 0) (μ 30 1).toNat q = false) → pX0_firstUnsorted G n K 2 [some (Rv G 30), some (Iv w), none, none] [] μ := by
    intro g
    induction g with
    | zero =>
      intro w ew hq
      refine bX0_firstUnsorted_2 (by omega) (c0_words (by omega) rfl b0.2.1 b0.2.2 ?_)
      simp (disch := omega) only [wr_of]
      exact ⟨fun _ => hK (-9) (Or.inl ⟨rfl, fun q a => hq q (by omega)⟩), fun z => by omega⟩
    | succ g ih =>
      intro w ew hq
      refine bX0_firstUnsorted_2 (by omega) (c0_words (by omega) rfl b0.2.1 b0.2.2 ?_)
      simp (disch := omega) only [wr_of]
      refine ⟨fun z => by omega, fun _ => c0_unsorted hn h (by omega) (by omega) (fun x hx => ?_)⟩
      rw [lc_0]
      refine ⟨fun z => ih (w + 1) (by omega) (fun q a => ?_), fun z => ?_⟩
      · by_cases c : q < 64 * w
        · exact hq q c
        · have := hx (q - 64 * w) (by omega)
          rw [z _ (by omega), show 64 * ((w : Nat) : Int).toNat + (q - 64 * w) = q by omega] at this
          exact this.symm
      · obtain ⟨k, k1, k2, k3⟩ := first_ex 64 z
        refine c_bitCount ?_
        rw [low_x k1 k2 k3]
        have kk := hx k k1
        rw [k2, show ((w : Nat) : Int).toNat = w from rfl] at kk
        refine hK _ (Or.inr ⟨64 * w + k, by omega, by omega, kk.symm, fun j hj => ?_⟩)
        by_cases c : j < 64 * w
        · exact hq j c
        · have := hx (j - 64 * w) (by omega)
          rw [k3 _ (by omega), show 64 * ((w : Nat) : Int).toNat + (j - 64 * w) = j by omega] at this
          exact this.symm
  exact eX0_firstUnsorted (by omega) (key (wds (μ 30 0)).toNat 0 (by omega) (fun q a => by omega))
theorem c0_sorted (hn : 154 ≤ n) (h : I3 μ) {K : Int → zM → Prop} (hK : K (((2 ^ (μ 30 0).toNat : Nat) : Int) - (cq (pq (μ 31) (μ 32) (μ 30 0) (μ 30 1).toNat) (64 * (wds (μ 30 0)).toNat) : Nat)) μ) : mX0_sortedRows G n μ K := by
  have b0 := h.1.1
  have w4 := wds_r (W := μ 30 0)
  have rn := rows_n b0.2.1 b0.2.2
  refine eX0_sortedRows (by omega) (fun v1 e1 => ?_)
  rw [rn.2.1] at e1
  have key : ∀ (g w : Nat), (w : Int) + g = wds (μ 30 0) → pX0_sortedRows G n K 9 [some (Rv G 30), some (Iv (((2 ^ (μ 30 0).toNat : Nat) : Int) - (cq (pq (μ 31) (μ 32) (μ 30 0) (μ 30 1).toNat) (64 * w) : Nat))), some (Iv w)] [] μ := by
    intro g
    induction g with
    | zero =>
      intro w ew
      have : (wds (μ 30 0)).toNat = w := by omega
      rw [this] at hK
      refine bX0_sortedRows_9 (by omega) (c0_words (by omega) rfl b0.2.1 b0.2.2 ?_)
      simp (disch := omega) only [wr_of]
      exact ⟨fun _ => hK, fun z => by omega⟩
    | succ g ih =>
      intro w ew
      refine bX0_sortedRows_9 (by omega) (c0_words (by omega) rfl b0.2.1 b0.2.2 ?_)
      simp (disch := omega) only [wr_of]
      refine ⟨fun z => by omega, fun _ => c0_unsorted hn h (by omega) (by omega) (fun x hx => c_bitCount (fun v8 e8 => ?_))⟩
      have := ih (w + 1) (by omega)
      rw [show 64 * (w + 1) = 64 * w + 64 by omega, cq_add] at this
      rw [pcn_cq, cq_ext (q := fun k => pq (μ 31) (μ 32) (μ 30 0) (μ 30 1).toNat (64 * w + k)) 64 (fun k hk => by rw [← lb_N, hx k hk]; rfl)] at e8
      rw [e8, Int.sub_sub, ← Int.natCast_add]
      exact this
  rw [e1]
  have := key (wds (μ 30 0)).toNat 0 (by omega)
  simp only [Nat.mul_zero, cq] at this
  simpa using this
end T37
