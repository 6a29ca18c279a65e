/-! SHEETS, FAULTS -/
def zcut (l v : Int) : Int := if l = 0 then zi2b v else if l = 1 then zi2s v else v
def fitsL (l v : Int) : Prop := (l = 0 → -128 ≤ v ∧ v < 128) ∧ (l = 1 → -32768 ≤ v ∧ v < 32768) ∧ R32 v
theorem zi2b_r (v : Int) : -128 ≤ zi2b v ∧ zi2b v < 128 := by
  unfold zi2b
  rw [Int8.toInt_toInt32]
  exact ⟨Int8.le_toInt _, Int8.toInt_lt _⟩
theorem zi2s_r (v : Int) : -32768 ≤ zi2s v ∧ zi2s v < 32768 := by
  unfold zi2s
  rw [Int16.toInt_toInt32]
  exact ⟨Int16.le_toInt _, Int16.toInt_lt _⟩
theorem zi2b_id {v : Int} (h : -128 ≤ v ∧ v < 128) : zi2b v = v := by
  unfold zi2b
  rw [Int8.toInt_toInt32, Int32.toInt8_ofInt]
  exact Int8.toInt_ofInt_of_le (by omega) (by omega)
theorem zi2s_id {v : Int} (h : -32768 ≤ v ∧ v < 32768) : zi2s v = v := by
  unfold zi2s
  rw [Int16.toInt_toInt32, Int32.toInt16_ofInt]
  exact Int16.toInt_ofInt_of_le (by omega) (by omega)
theorem zcut_fits {l v : Int} (hv : R32 v) : fitsL l (zcut l v) := by
  have h1 := zi2b_r v
  have h2 := zi2s_r v
  unfold fitsL zcut
  split
  · refine ⟨fun _ => h1, fun q => by omega, by constructor <;> omega⟩
  · split
    · exact ⟨fun q => by omega, fun _ => h2, by constructor <;> omega⟩
    · exact ⟨fun q => by omega, fun q => by omega, hv⟩
theorem zcut_id {l v : Int} (h : fitsL l v) : zcut l v = v := by
  unfold zcut
  split
  · rename_i q; exact zi2b_id (h.1 q)
  · split
    · rename_i q; exact zi2s_id (h.2.1 q)
    · rfl
def Lane (μ : zM) (k : Int) : Prop := (μ 119 k = -1 ∧ μ 137 k = -9) ∨ (0 ≤ μ 119 k ∧ μ 119 k ≤ 2 ∧ μ 137 k = μ 119 k ∧ μ 120 k = μ 138 k ∧ 0 ≤ μ 120 k ∧ μ 120 k ≤ 60)
def Cells (μ : zM) (k i : Int) : Prop := μ (122 + k) i = μ 139 (60 * k + i) ∧ fitsL (μ 119 k) (μ (122 + k) i)
def I5 (μ : zM) : Prop := (μ 0 8 = μ 127 0 ∧ R32 (μ 0 8)) ∧ ∀ k, 0 ≤ k → k < 4 → Lane μ k ∧ ∀ i, 0 ≤ i → i < 60 → Cells μ k i
section SH
variable {G : zG} {n : Nat} {μ : zM}
theorem c5_cut (hn : 154 ≤ n) {l v : Int} {K : Int → zM → Prop} (hl : R32 l) (h : K (zcut l v) μ) : mX5_cut G n l v μ K := by
  refine eX5_cut (by omega) ⟨fun c => ⟨fun c2 => ?_, fun c2 => ?_⟩, fun c => ?_⟩ <;> simp only [wr_r hl, show wr 1 = 1 from rfl] at * <;> simpa [zcut, *] using h
theorem c5_change (hn : 154 ≤ n) {k i v : Int} {K : zM → Prop} (hk : 0 ≤ k ∧ k < 4) (hi : 0 ≤ i ∧ i < 60) (hl : R32 (μ 119 k)) (h : K (zu μ (122 + k) i (zcut (μ 119 k) v))) : mX5_change G n k i v μ K := by
  refine eX5_change (by omega) ?_
  simp (disch := omega) only [wr_of, Int.reduceAdd]
  refine ⟨hk, hk, c5_cut hn hl ⟨hi, fun μ' e => ?_⟩⟩
  rw [e]; exact h
def fcd (la no l len i m : Int) : Int := if la = no then 1 else if la ≠ l then 2 else if 0 ≤ i ∧ i ≤ len - m then 0 else 3
theorem c5_foc (hn : 154 ≤ n) {k l i m : Int} {K : Int → zM → Prop} (hk : 0 ≤ k ∧ k < 4) (h1 : R32 (μ 119 k)) (h2 : R32 l) (h3 : R32 i) (h4 : μ 119 k ≠ -1 → R32 (μ 120 k - m))
    (h : K (fcd (μ 119 k) (-1) l (μ 120 k) i m) μ) : mX5_faultOfCells G n k l i m μ K := by
  refine eX5_faultOfCells (by omega) ?_
  simp (disch := omega) only [wr_of]
  unfold fcd at h
  refine ⟨hk, fun c => ⟨hk, fun c2 => ⟨hk, c_within hn ?_⟩, fun c2 => ?_⟩, fun c => ?_⟩
  · have h4 := h4 c
    simp (disch := omega) only [wr_of, ite_b0]
    rw [if_neg c, if_neg (by omega)] at h
    refine ⟨fun c3 => ?_, fun c3 => ?_⟩
    · rwa [if_neg c3] at h
    · rwa [if_pos (by simpa using c3)] at h
  · rwa [if_neg c, if_pos c2] at h
  · rwa [if_pos c] at h
theorem c8_isSheet (hn : 154 ≤ n) {k : Int} {K : Int → zM → Prop} (h : K (if 0 ≤ wr k ∧ wr k ≤ 3 then 1 else 0) μ) : mX8_isSheet G n k μ K := by
  refine eX8_isSheet hn (c8_within hn ⟨?_, h⟩)
  rw [wr_b]; split <;> simp
theorem c8_isLane (hn : 154 ≤ n) {k : Int} {K : Int → zM → Prop} (h : K (if 0 ≤ wr k ∧ wr k ≤ 2 then 1 else 0) μ) : mX8_isLane G n k μ K := by
  refine eX8_isLane hn (c8_within hn ⟨?_, h⟩)
  rw [wr_b]; split <;> simp
theorem c8_against (hn : 154 ≤ n) {k l i m : Int} {K : Int → zM → Prop} (hk : 0 ≤ k ∧ k < 4) (h1 : R32 (μ 137 k)) (h2 : R32 l) (h3 : R32 i) (h4 : μ 137 k ≠ -9 → 0 ≤ μ 138 k ∧ μ 138 k ≤ 60) (h5 : 0 ≤ m ∧ m < 100) {r : Int} (hr : r = fcd (μ 137 k) (-9) l (μ 138 k) i m)
    (h : K (if r = 0 then 0 else -10 - r) (if r = 0 then μ else zu μ 127 0 r)) : mX8_against G n k l i m μ K := by
  refine eX8_against hn ?_
  unfold fcd at hr
  by_cases c : μ 137 k = -9
  · rw [if_pos c] at hr
    subst hr
    simp (disch := omega) only [wr_of]
    refine ⟨hk, fun _ => ⟨hk, fun q => absurd c q, fun _ => eX8_fails hn (fun μ' e => ?_)⟩, fun q => absurd c q⟩
    rw [e]; exact h
  · rw [if_neg c] at hr
    have h4 := h4 c
    simp (disch := omega) only [wr_of]
    refine ⟨hk, fun q => absurd q c, fun _ => ⟨hk, fun c2 => ⟨hk, fun _ => ⟨fun c3 => eX8_fails hn (fun μ' e => ?_), fun c3 => ⟨hk, fun c4 => eX8_fails hn (fun μ' e => ?_), fun c4 => ⟨hk, ?_⟩⟩⟩, fun q => absurd q c⟩, fun c2 => eX8_fails hn (fun μ' e => ?_)⟩⟩
    · rw [if_neg (by omega), if_neg (by omega)] at hr
      subst hr; rw [e]; exact h
    · rw [if_neg (by omega), if_neg (by omega)] at hr
      subst hr; rw [e]; exact h
    · simp (disch := omega) only [wr_of]
      refine ⟨fun c5 => ?_, fun c5 => eX8_fails hn (fun μ' e => ?_)⟩
      · rw [if_neg (by omega), if_pos (by omega)] at hr
        subst hr; exact h
      · rw [if_neg (by omega), if_neg (by omega)] at hr
        subst hr; rw [e]; exact h
    · rw [if_pos (by omega)] at hr
      subst hr; rw [e]; exact h
theorem Lane.r {k : Int} (h : Lane μ k) : R32 (μ 119 k) ∧ R32 (μ 137 k) ∧ (μ 137 k ≠ -9 → 0 ≤ μ 138 k ∧ μ 138 k ≤ 60) ∧ (μ 119 k ≠ -1 → 0 ≤ μ 120 k ∧ μ 120 k ≤ 60) := by
  unfold Lane at h
  refine ⟨?_, ?_, ?_, ?_⟩ <;> omega
/-- class and model come to the same fault -/
theorem Lane.fc {k l i m : Int} (h : Lane μ k) (hl : 0 ≤ l ∧ l ≤ 2) : fcd (μ 119 k) (-1) l (μ 120 k) i m = fcd (μ 137 k) (-9) l (μ 138 k) i m := by
  unfold Lane at h
  simp only [fcd]
  rcases h with ⟨h1, h2⟩ | ⟨h1, h2, h3, h4, h5⟩
  · rw [if_pos h1, if_pos h2]
  · have q1 : ¬ μ 119 k = -1 := by omega
    have q2 : ¬ μ 119 k = -9 := by omega
    rw [h3, h4, if_neg q1, if_neg q2]
end SH
