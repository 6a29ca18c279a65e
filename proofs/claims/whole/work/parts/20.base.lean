/-! pure words: what follows speaks of memories and numbers alone -/
abbrev R32 (a : Int) : Prop := -2147483648 ≤ a ∧ a < 2147483648
theorem wr_R (a : Int) : R32 (wr a) := ⟨wr_lo a, wr_hi a⟩
theorem wr_r {a : Int} (h : R32 a) : wr a = a := wr_of h.1 h.2
theorem wr_b {P : Prop} [Decidable P] : wr (if P then 1 else 0) = if P then 1 else 0 := by split <;> rfl
theorem wr_b0 {P : Prop} [Decidable P] : (wr (if P then 1 else 0) = 0) ↔ ¬ P := by
  rw [wr_b]; split <;> simp_all
theorem ite_b0 {P : Prop} [Decidable P] : ((if P then (1 : Int) else 0) = 0) ↔ ¬ P := by split <;> simp_all
theorem mono_i {G : zG} {n d : Nat} {y : MethodName} {cc : ByteArray} {nL : Nat} {ret : Option FieldType} {args : List Value} {μ : zM} {K K' : Int → zM → Prop} (h : zMt G n d y cc nL ret args μ (zKi K)) (hk : ∀ v μ', K v μ' → K' v μ') : zMt G n d y cc nL ret args μ (zKi K') := zMt.mono h (fun r μ' ⟨v, e, q⟩ => ⟨v, e, hk v μ' q⟩)
theorem mono_l {G : zG} {n d : Nat} {y : MethodName} {cc : ByteArray} {nL : Nat} {ret : Option FieldType} {args : List Value} {μ : zM} {K K' : Int → zM → Prop} (h : zMt G n d y cc nL ret args μ (zKl K)) (hk : ∀ v μ', K v μ' → K' v μ') : zMt G n d y cc nL ret args μ (zKl K') := zMt.mono h (fun r μ' ⟨v, e, q⟩ => ⟨v, e, hk v μ' q⟩)
theorem mono_v {G : zG} {n d : Nat} {y : MethodName} {cc : ByteArray} {nL : Nat} {ret : Option FieldType} {args : List Value} {μ : zM} {K K' : zM → Prop} (h : zMt G n d y cc nL ret args μ (zKv K)) (hk : ∀ μ', K μ' → K' μ') : zMt G n d y cc nL ret args μ (zKv K') := zMt.mono h (fun r μ' ⟨e, q⟩ => ⟨e, hk μ' q⟩)
/-- which module a place of memory belongs to -/
def zone (a i : Int) : Nat :=
  if a ≤ 0 then 5 else if a ≤ 18 then 1 else if a ≤ 29 then 2 else if a ≤ 44 then 3 else if a ≤ 117 then 4 else if a ≤ 126 then 5
  else if a = 127 then (if i = 0 then 5 else if i = 1 then 3 else if i ≤ 11 then 1 else if i ≤ 19 then 2 else if i ≤ 22 then 5 else if i = 23 then 2 else if i ≤ 29 then 3 else 4)
  else if a ≤ 132 then 1 else if a ≤ 136 then 2 else if a ≤ 139 then 5 else if a = 140 then 2 else if a ≤ 144 then 3 else 4
/-- nothing outside zone z has changed -/
def Fz (z : Nat) (μ μ' : zM) : Prop := ∀ a i, zone a i ≠ z → μ' a i = μ a i
theorem Fz.rf {z : Nat} {μ : zM} : Fz z μ μ := fun _ _ _ => rfl
theorem Fz.tr {z : Nat} {μ μ' μ'' : zM} (h : Fz z μ μ') (h' : Fz z μ' μ'') : Fz z μ μ'' := fun a i q => (h' a i q).trans (h a i q)
theorem Fz.zu {z : Nat} {μ μ' : zM} {a i v : Int} (h : Fz z μ μ') (hz : zone a i = z) : Fz z μ (zu μ' a i v) := fun a' i' q => by
  rw [zu_ne, h a' i' q]
  rintro ⟨rfl, rfl⟩
  exact q hz
/-- a row of a memory filled with one number -/
def zfill (μ : zM) (a N v : Int) : zM := fun a' i' => if a' = a ∧ 0 ≤ i' ∧ i' < N then v else μ a' i'
theorem c_fill_loop {G : zG} {n : Nat} {a v : Int} {K : zM → Prop} (ha : 0 ≤ a ∧ a < n ∧ zk a = 0) (hN : (zn a : Int) < 2147483648) {μ : zM} (h : K (zfill μ a (zn a) v)) :
    ∀ (k : Nat) (i : Int) (μ' : zM), 0 ≤ i → i + k = zn a → μ' = zfill μ a i v → pJ7_fill_53178 G n K 5 [some (Rv G a), some (Iv v), some (Iv i), some (Iv (zn a))] [] μ' := by
  intro k
  induction k with
  | zero =>
    intro i μ' h0 hi e
    refine bJ7_fill_53178_5 (Nat.zero_le n) ⟨fun _ => ?_, fun c => ?_⟩
    · rw [e, show i = zn a by omega]; exact h
    · exact absurd (by rw [wr_of (by omega) (by omega), wr_of (by omega) (by omega)]; omega) c
  | succ k ih =>
    intro i μ' h0 hi e
    refine bJ7_fill_53178_5 (Nat.zero_le n) ⟨fun c => ?_, fun _ => ⟨?_, fun μ2 e2 => ?_⟩⟩
    · rw [wr_of (by omega) (by omega), wr_of (by omega) (by omega)] at c
      omega
    · exact ⟨ha, by rw [wr_of (by omega) (by omega)]; omega⟩
    · refine ih (i + 1) μ2 (by omega) (by omega) ?_
      rw [e2, e, wr_of (by omega) (by omega)]
      funext a' i'
      by_cases h1 : a' = a
      · by_cases h2 : i' = i
        · simp [zu, zfill, h1, h2, h0]; omega
        · by_cases h3 : 0 ≤ i' ∧ i' < i
          · simp [zu, zfill, h1, h2, h3]; omega
          · simp [zu, zfill, h1, h2, h3]; omega
      · simp [zu, zfill, h1]
theorem zn_small (a : Int) : (zn a : Int) < 1000 := by
  have h0 : ∀ p ∈ zsh, p.2 < 1000 := by decide +kernel
  unfold zn
  rw [List.getD_eq_getElem?_getD]
  cases h : zsh[a.toNat]? with
  | none => decide
  | some p =>
    have := h0 p (List.mem_of_getElem? h)
    show ((p.2 : Nat) : Int) < 1000
    omega
theorem c_fill {G : zG} {n : Nat} {a v : Int} {μ : zM} {K : zM → Prop} (ha : 0 ≤ a ∧ a < n ∧ zk a = 0) (h : K (zfill μ a (zn a) v)) : mJ7_fill_53178 G n a v μ K := by
  refine eJ7_fill_53178 (Nat.zero_le n) ⟨ha, fun v4 e4 => ?_⟩
  subst e4
  have hs := zn_small a
  refine c_fill_loop ha (by omega) h (zn a) 0 μ (Int.le_refl 0) (by omega) ?_
  funext a' i'
  unfold zfill
  rw [if_neg (by omega)]
theorem c_within {G : zG} {n : Nat} (hn : 154 ≤ n) {x a b : Int} {μ : zM} {K : Int → zM → Prop} (h : K (if wr a ≤ wr x ∧ wr x ≤ wr b then 1 else 0) μ) : mX7_within G n x a b μ K := by
  refine eX7_within hn ⟨fun c => ?_, fun c => ⟨fun c2 => ?_, fun c2 => ?_⟩⟩
  · rwa [if_neg (by omega)] at h
  · rwa [if_neg (by omega)] at h
  · rwa [if_pos (by omega)] at h
theorem c8_within {G : zG} {n : Nat} (hn : 154 ≤ n) {x a b : Int} {μ : zM} {K : Int → zM → Prop} (h : K (if wr a ≤ wr x ∧ wr x ≤ wr b then 1 else 0) μ) : mX8_within G n x a b μ K := by
  refine eX8_within hn ⟨fun c => ?_, fun c => ⟨fun c2 => ?_, fun c2 => ?_⟩⟩
  · rwa [if_neg (by omega)] at h
  · rwa [if_neg (by omega)] at h
  · rwa [if_pos (by omega)] at h
