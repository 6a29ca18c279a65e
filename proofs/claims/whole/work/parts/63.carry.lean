section T23
variable {G : zG} {n : Nat} {μ ν : zM}
theorem zlcmp_i {a b : Int} (ha : R64 a) (hb : R64 b) : wr (zlcmp a b) = if b < a then 1 else if a = b then 0 else -1 := by
  have e : zlcmp a b = if b < a then 1 else if a = b then 0 else -1 := by
    unfold zlcmp lg_cmp
    simp only [gt_iff_lt, Int64.lt_iff_toInt_lt, ← Int64.toInt_inj]
    rw [show (Int64.ofInt a).toInt = a from wl_of ha.1 ha.2, show (Int64.ofInt b).toInt = b from wl_of hb.1 hb.2]
    by_cases c : b < a
    · rw [if_pos c, if_pos c]; rfl
    · rw [if_neg c, if_neg c]
      by_cases d : a = b
      · rw [if_pos d, if_pos d]; rfl
      · rw [if_neg d, if_neg d]; rfl
  rw [e]
  repeat' split
  all_goals rfl
theorem zlushr_bv (a : Int) {p : Nat} (hp : p = 1 ∨ p = 6 ∨ p = 20) : zlushr a (p : Int) = (BitVec.ofInt 64 a >>> p).toInt := by
  unfold zlushr
  show BitVec.toInt (UInt64.toBitVec (_ >>> _)) = _
  rw [UInt64.toBitVec_shiftRight, BitVec.ushiftRight_eq']
  rcases hp with rfl | rfl | rfl <;> rfl
theorem zlushr_0 {a : Int} (ha : R64 a) {p : Nat} (hp : p = 1 ∨ p = 6 ∨ p = 20) : wr (zlcmp (zlushr a (p : Int)) 0) = 0 ↔ (0 ≤ a ∧ a < 2 ^ p) := by
  have hr : R64 (zlushr a (p : Int)) := R64x _
  rw [zlcmp_i hr ⟨by decide, by decide⟩]
  have e : zlushr a (p : Int) = 0 ↔ (BitVec.ofInt 64 a).toNat / 2 ^ p = 0 := by
    rw [zlushr_bv a hp, ← BitVec.toInt_zero (w := 64), BitVec.toInt_inj, ← BitVec.toNat_inj, BitVec.toNat_ushiftRight, Nat.shiftRight_eq_div_pow]
    rfl
  have e2 : ((BitVec.ofInt 64 a).toNat : Int) = if 0 ≤ a then a else a + 18446744073709551616 := by
    obtain ⟨a1, a2⟩ := ha
    rw [BitVec.toNat_ofInt]
    split <;> omega
  have e3 : (if 0 < zlushr a (p : Int) then (1 : Int) else if zlushr a (p : Int) = 0 then 0 else -1) = 0 ↔ zlushr a (p : Int) = 0 := by
    split
    · constructor <;> intro <;> omega
    · split <;> constructor <;> intro <;> omega
  rw [e3, e]
  generalize (BitVec.ofInt 64 a).toNat = m at e2
  obtain ⟨a1, a2⟩ := ha
  rcases hp with rfl | rfl | rfl <;> split at e2 <;> omega
theorem zand_1 (a : Int) : zand a 1 = 0 ∨ zand a 1 = 1 := by
  have h : (Int32.ofInt a &&& Int32.ofInt 1).toBitVec.toNat ≤ 1 := by
    rw [Int32.toBitVec_and, BitVec.toNat_and]
    exact Nat.and_le_right
  have : zand a 1 = ((Int32.ofInt a &&& Int32.ofInt 1).toBitVec.toNat : Int) := i32tn rfl (by omega)
  omega
theorem zxor_b {a b : Int} (ha : a = 0 ∨ a = 1) (hb : b = 0 ∨ b = 1) : zxor a b = if a = b then 0 else 1 := by
  rcases ha with rfl | rfl <;> rcases hb with rfl | rfl <;> decide +kernel
theorem x8_bits : ∀ x : Fin 8, zand (x.val : Int) 1 = (x.val : Int) % 2 ∧ zshr (x.val : Int) 1 = (x.val : Int) / 2 := by decide +kernel
theorem x8 {x : Int} (h0 : 0 ≤ x) (h1 : x < 8) : zand x 1 = x % 2 ∧ zshr x 1 = x / 2 := by
  have := x8_bits ⟨x.toNat, by omega⟩
  rw [show (((⟨x.toNat, by omega⟩ : Fin 8).val : Nat) : Int) = x from Int.toNat_of_nonneg h0] at this
  exact this
def nt (st x : Int) : Int := zxor (zand x 1) (zand (zshr st (x / 2)) 1)
def cr1 (st x : Int) : Int := zxor x (zand st 1)
def cr2 (st x : Int) : Int := 2 * cr1 (zshr st (4 + nt st x)) (x / 2) + zxor (nt st x) (zand (zshr st (2 + cr1 (zshr st (4 + nt st x)) (x / 2))) 1)
def cr3 (st x : Int) : Int := 2 * cr2 (zshr st (8 + nt st x * 6)) (x / 2) + zxor (nt st x) (zand (zshr st (4 + cr2 (zshr st (8 + nt st x * 6)) (x / 2))) 1)
/-- a row of numbers below w, no two alike -/
def Ij (w : Int) (f : Int → Int) : Prop := (∀ x, 0 ≤ x → x < w → 0 ≤ f x ∧ f x < w) ∧ (∀ x y, 0 ≤ x → x < w → 0 ≤ y → y < w → f x = f y → x = y)
theorem nt_b (st x : Int) : nt st x = 0 ∨ nt st x = 1 := by
  unfold nt
  rw [zxor_b (zand_1 _) (zand_1 _)]
  split <;> simp
theorem cr1_Ij (st : Int) : Ij 2 (cr1 st) := by
  have e : ∀ x, x = 0 ∨ x = 1 → cr1 st x = if x = zand st 1 then 0 else 1 := fun x hx => zxor_b hx (zand_1 _)
  have b := zand_1 st
  refine ⟨fun x h0 h1 => ?_, fun x y h0 h1 h2 h3 q => ?_⟩
  · rw [e x (by omega)]; split <;> omega
  · rw [e x (by omega), e y (by omega)] at q
    split at q <;> split at q <;> omega
theorem cr_step {h : Int} (hh : h ≤ 4) {inner : Int → Int → Int} {bb bt : Int → Int} (hi : ∀ v, v = 0 ∨ v = 1 → Ij h (inner v)) (hb : ∀ y, bb y = 0 ∨ bb y = 1) (ht : ∀ y, bt y = 0 ∨ bt y = 1) :
    Ij (2 * h) (fun x => 2 * inner (zxor (zand x 1) (bb (x / 2))) (x / 2) + zxor (zxor (zand x 1) (bb (x / 2))) (bt (inner (zxor (zand x 1) (bb (x / 2))) (x / 2)))) := by
  have vb : ∀ x, zxor (zand x 1) (bb (x / 2)) = 0 ∨ zxor (zand x 1) (bb (x / 2)) = 1 := fun x => by
    rw [zxor_b (zand_1 _) (hb _)]; split <;> simp
  refine ⟨fun x h0 h1 => ?_, fun x y h0 h1 h2 h3 q => ?_⟩
  · have i := (hi _ (vb x)).1 (x / 2) (by omega) (by omega)
    have c := zxor_b (vb x) (ht (inner (zxor (zand x 1) (bb (x / 2))) (x / 2)))
    simp only
    rw [c]
    split <;> omega
  · simp only at q
    rw [zxor_b (vb x) (ht _), zxor_b (vb y) (ht _)] at q
    have yy : inner (zxor (zand x 1) (bb (x / 2))) (x / 2) = inner (zxor (zand y 1) (bb (y / 2))) (y / 2) := by
      split at q <;> split at q <;> omega
    have vv : zxor (zand x 1) (bb (x / 2)) = zxor (zand y 1) (bb (y / 2)) := by
      rw [yy] at q
      have t := ht (inner (zxor (zand y 1) (bb (y / 2))) (y / 2))
      have v1 := vb x
      have v2 := vb y
      split at q <;> split at q <;> omega
    rw [vv] at yy
    have hx2 := (hi _ (vb y)).2 (x / 2) (y / 2) (by omega) (by omega) (by omega) (by omega) yy
    rw [zxor_b (zand_1 _) (hb _), zxor_b (zand_1 _) (hb _), hx2, (x8 h0 (by omega)).1, (x8 h2 (by omega)).1] at vv
    have b := hb (y / 2)
    split at vv <;> split at vv <;> omega
theorem cr2_Ij (st : Int) : Ij 4 (cr2 st) := cr_step (h := 2) (inner := fun v x => cr1 (zshr st (4 + v)) x) (bb := fun y => zand (zshr st y) 1) (bt := fun y => zand (zshr st (2 + y)) 1) (by decide) (fun v _ => cr1_Ij _) (fun _ => zand_1 _) (fun _ => zand_1 _)
theorem cr3_Ij (st : Int) : Ij 8 (cr3 st) := cr_step (h := 4) (inner := fun v x => cr2 (zshr st (8 + v * 6)) x) (bb := fun y => zand (zshr st y) 1) (bt := fun y => zand (zshr st (4 + y)) 1) (by decide) (fun v _ => cr2_Ij _) (fun _ => zand_1 _) (fun _ => zand_1 _)
def crk (k st x : Int) : Int := if k = 1 then cr1 st x else if k = 2 then cr2 st x else cr3 st x
theorem crk_Ij {k : Int} (hk : k = 1 ∨ k = 2 ∨ k = 3) (st : Int) : Ij (zshl 1 k) (crk k st) := by
  rcases hk with rfl | rfl | rfl
  · exact cr1_Ij st
  · exact cr2_Ij st
  · exact cr3_Ij st
theorem c1_carried1 (hn : 26 ≤ n) {d : Nat} {st x : Int} {K : Int → zM → Prop} (hK : K (cr1 st x) μ) : mX1_carried G n (d + 1) 1 st x μ K := eX1_carried hn ⟨fun q => absurd q (by decide), fun _ => hK⟩
theorem c1_carried2 (hn : 26 ≤ n) {d : Nat} {st x : Int} (h0 : 0 ≤ x) (h1 : x < 4) {K : Int → zM → Prop} (hK : K (cr2 st x) μ) : mX1_carried G n (d + 2) 2 st x μ K := by
  refine eX1_carried hn ⟨fun _ v2 e2 => ?_, fun q => absurd (by decide) q⟩
  rw [(x8 h0 (by omega)).2]
  refine eX1_bit hn (fun v5 e5 => ⟨by decide, fun v7 e7 => ?_⟩)
  refine c1_carried1 (d := d) hn (eX1_bit hn ?_)
  have p : zpairs (wr (2 - 1)).toNat = 1 := by decide +kernel
  have w4 : v2 = 4 := by rw [e2]; decide +kernel
  have w2 : zdiv v2 2 = 2 := by rw [w4]; decide +kernel
  rw [w2, e7, p, Int.mul_one, w4, show v5 = nt st x from e5]
  exact hK
theorem c1_carried3 (hn : 26 ≤ n) {d : Nat} {st x : Int} (h0 : 0 ≤ x) (h1 : x < 8) {K : Int → zM → Prop} (hK : K (cr3 st x) μ) : mX1_carried G n (d + 3) 3 st x μ K := by
  refine eX1_carried hn ⟨fun _ v2 e2 => ?_, fun q => absurd (by decide) q⟩
  rw [(x8 h0 (by omega)).2]
  refine eX1_bit hn (fun v5 e5 => ⟨by decide, fun v7 e7 => ?_⟩)
  refine c1_carried2 (d := d) hn (by omega) (by omega) (eX1_bit hn ?_)
  have p : zpairs (wr (3 - 1)).toNat = 6 := by decide +kernel
  have w4 : v2 = 8 := by rw [e2]; decide +kernel
  have w2 : zdiv v2 2 = 4 := by rw [w4]; decide +kernel
  rw [w2, e7, p, w4, show v5 = nt st x from e5]
  exact hK
theorem zxor_comm (a b : Int) : zxor a b = zxor b a := by unfold zxor; rw [Int32.xor_comm]
theorem c8_carried2 (hn : 154 ≤ n) {st x : Int} (h0 : 0 ≤ x) (h1 : x < 4) {K : Int → zM → Prop} (hK : K (cr2 st x) μ) : mX8_carriedFour G n x st μ K := by
  refine eX8_carriedFour hn ?_
  rw [zdiv_of h0 (by omega) (by omega) (by omega)]
  intro v1 e1
  rw [zxor_comm] at e1
  refine eX8_carriedTwo hn ?_
  rw [show v1 = nt st x from e1]
  exact hK
theorem c8_carried3 (hn : 154 ≤ n) {st x : Int} (h0 : 0 ≤ x) (h1 : x < 8) {K : Int → zM → Prop} (hK : K (cr3 st x) μ) : mX8_carriedEight G n x st μ K := by
  refine eX8_carriedEight hn ?_
  rw [zdiv_of h0 (by omega) (by omega) (by omega)]
  intro v1 e1
  rw [zxor_comm] at e1
  refine c8_carried2 hn (by omega) (by omega) ?_
  rw [show v1 = nt st x from e1, Int.mul_comm 6]
  exact hK
/-- a row of a memory made of a function -/
def zmap (μ : zM) (a N : Int) (f : Int → Int) : zM := fun a' i' => if a' = a ∧ 0 ≤ i' ∧ i' < N then f i' else μ a' i'
theorem zmap_0 (a : Int) (f : Int → Int) : zmap μ a 0 f = μ := by
  funext a' i'
  unfold zmap
  rw [if_neg (by omega)]
theorem zmap_s {a k : Int} {f : Int → Int} (hk : 0 ≤ k) : zu (zmap μ a k f) a k (f k) = zmap μ a (k + 1) f := by
  funext b j
  unfold zu zmap
  by_cases c : b = a
  · by_cases c1 : j = k
    · rw [if_pos ⟨c, c1⟩, if_pos (by omega), c1]
    · rw [if_neg (fun q => c1 q.2)]
      by_cases c2 : 0 ≤ j ∧ j < k
      · rw [if_pos ⟨c, c2⟩, if_pos (by omega)]
      · rw [if_neg (fun q => c2 q.2), if_neg (by omega)]
  · rw [if_neg (fun q => c q.1), if_neg (fun q => c q.1), if_neg (fun q => c q.1)]
theorem zmap_na {a N b j : Int} {f : Int → Int} (h : b ≠ a) : zmap μ a N f b j = μ b j := by unfold zmap; rw [if_neg (fun q => h q.1)]
theorem zmap_in {a N j : Int} {f : Int → Int} (h0 : 0 ≤ j) (h1 : j < N) : zmap μ a N f a j = f j := by unfold zmap; rw [if_pos ⟨rfl, h0, h1⟩]
theorem c1_carryBy (hn : 154 ≤ n) {k st : Int} (hk : k = 1 ∨ k = 2 ∨ k = 3) {K : zM → Prop} (hK : K (zmap (zu μ 19 0 k) 20 (zshl 1 k) (crk k st))) : mX1_carryBy G n k st μ K := by
  refine eX1_carryBy (by omega) (fun μ1 e1 => ?_)
  have w : zshl 1 k = 2 ∨ zshl 1 k = 4 ∨ zshl 1 k = 8 := by rcases hk with rfl | rfl | rfl <;> decide +kernel
  have w2 : (k = 1 → zshl 1 k = 2) ∧ (k = 2 → zshl 1 k = 4) := by refine ⟨?_, ?_⟩ <;> rintro rfl <;> decide +kernel
  have key : ∀ (f : Nat) (x : Int), 0 ≤ x → x + f = zshl 1 k → pX1_carryBy G n K 7 [some (Rv G 19), some (Iv k), some (Iv st), some (Iv x)] [] (zmap μ1 20 x (crk k st)) := by
    intro f
    induction f with
    | zero =>
      intro x h0 h1
      refine bX1_carryBy_7 (by omega) (c1_width (by omega) ?_)
      rw [show wd (zmap μ1 20 x (crk k st)) = zshl 1 k by unfold wd; rw [zmap_na (by decide), e1]; rfl]
      simp (disch := omega) only [wr_of]
      refine ⟨fun _ => ?_, fun z => by omega⟩
      rw [show x = zshl 1 k by omega, e1]; exact hK
    | succ f ih =>
      intro x h0 h1
      have := ih (x + 1) (by omega) (by omega)
      rw [← zmap_s h0] at this
      refine bX1_carryBy_7 (by omega) (c1_width (by omega) ?_)
      rw [show wd (zmap μ1 20 x (crk k st)) = zshl 1 k by unfold wd; rw [zmap_na (by decide), e1]; rfl]
      simp (disch := omega) only [wr_of]
      refine ⟨fun z => by omega, fun _ => ?_⟩
      have fin : (0 ≤ x ∧ x < 8) ∧ ∀ μ7 : zM, μ7 = zu (zmap μ1 20 x (crk k st)) 20 x (crk k st x) → pX1_carryBy G n K 7 [some (Rv G 19), some (Iv k), some (Iv st), some (Iv (x + 1))] [] μ7 := ⟨by omega, fun μ7 e7 => by rw [e7]; exact this⟩
      rcases hk with rfl | rfl | rfl
      · exact c1_carried1 (d := 9) (by omega) fin
      · exact c1_carried2 (d := 8) (by omega) h0 (by omega) fin
      · exact c1_carried3 (d := 7) (by omega) h0 (by omega) fin
  have := key (zshl 1 k).toNat 0 (by omega) (by omega)
  rwa [zmap_0] at this
theorem c8_carryL (hn : 154 ≤ n) {k st : Int} (hk : k = 1 ∨ k = 2 ∨ k = 3) (hm : μ 127 12 = k) {K : Int → zM → Prop} (hK : K (zshl 1 k) (zmap μ 133 (zshl 1 k) (crk k st))) : pX8_carry G n K 58 [some (Rv G 127), some (Iv k), none, none, some (Iv st), some (Iv 0)] [] μ := by
  have w : zshl 1 k = 2 ∨ zshl 1 k = 4 ∨ zshl 1 k = 8 := by rcases hk with rfl | rfl | rfl <;> decide +kernel
  have w2 : (k = 1 → zshl 1 k = 2) ∧ (k = 2 → zshl 1 k = 4) := by refine ⟨?_, ?_⟩ <;> rintro rfl <;> decide +kernel
  have key : ∀ (f : Nat) (x : Int), 0 ≤ x → x + f = zshl 1 k → pX8_carry G n K 58 [some (Rv G 127), some (Iv k), none, none, some (Iv st), some (Iv x)] [] (zmap μ 133 x (crk k st)) := by
    intro f
    induction f with
    | zero =>
      intro x h0 h1
      refine bX8_carry_58 hn (eX8_wide hn ?_)
      rw [zmap_na (by decide), hm]
      simp (disch := omega) only [wr_of]
      refine ⟨fun _ => eX8_wide hn ?_, fun z => by omega⟩
      rw [zmap_na (by decide), hm, show x = zshl 1 k by omega]; exact hK
    | succ f ih =>
      intro x h0 h1
      have := ih (x + 1) (by omega) (by omega)
      rw [← zmap_s h0] at this
      refine bX8_carry_58 hn (eX8_wide hn ?_)
      rw [zmap_na (by decide), hm]
      simp (disch := omega) only [wr_of]
      refine ⟨fun z => by omega, fun _ => ⟨fun z1 => ⟨fun z2 => ?_, fun z2 => ?_⟩, fun z1 => ?_⟩⟩
      · have : k = 3 := by omega
        subst this
        exact c8_carried3 hn h0 (by omega) ⟨by omega, fun μ7 e7 => by rw [e7]; assumption⟩
      · subst z2
        exact c8_carried2 hn h0 (by omega) ⟨by omega, fun μ7 e7 => by rw [e7]; assumption⟩
      · subst z1
        exact eX8_carriedTwo hn ⟨by omega, fun μ7 e7 => by rw [e7]; assumption⟩
  have := key (zshl 1 k).toNat 0 (by omega) (by omega)
  rwa [zmap_0] at this
end T23
