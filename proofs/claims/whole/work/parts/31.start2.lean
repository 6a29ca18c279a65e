/-! the start of the law: what the Statement gives -/
theorem zT_mem {w : Cond} (h : w ∈ zT) : w ∈ lw_tbl := (List.mem_filter.mp h).1
theorem zw_ac {ty : FieldType} (h : ty ∈ [FieldType.int, .long, .boolean]) : Cond.arrayClass ty ∈ lw_tbl := by
  have k : ∀ t ∈ [FieldType.int, .long, .boolean], Cond.arrayClass t ∈ tables_1 := by decide +kernel
  exact List.mem_append_right _ (k ty h)
theorem zw_ao {ty : FieldType} (h : ty ∈ [FieldType.int, .long]) : Cond.arrayOver (.array ty) ∈ lw_tbl := by
  have k : ∀ t ∈ [FieldType.int, .long], Cond.arrayOver (.array t) ∈ tables_1 := by decide +kernel
  exact List.mem_append_right _ (k ty h)
theorem zarr_of {ty : FieldType} {args : Array Value} {s : State} (h : (Cond.arrayClass ty).before args s = true) (hra : ∀ cA : ClassId, s.vm.findClass ("[" ++ ty.toString) = some cA → va_RA s cA ty) : ∃ cA : ClassId, ArrOfT s cA ty ∧ va_RA s cA ty := by
  obtain ⟨c, k, comp, h1, h2, h3⟩ := Cond.arrayClass_spec h
  exact ⟨c, fun N z => ⟨(fun q hq => by cases hq), k, h2, comp, h3⟩, hra c h1⟩
theorem zover_of {ty : FieldType} {s : State} (h : zOv ty s) : ∃ cA : ClassId, ArrOfT s cA (.array ty) ∧ va_RA s cA (.array ty) := by
  obtain ⟨comp, c, k, h1, h2, h3, h4, h5⟩ := h
  exact ⟨c, fun N z => ⟨(fun q hq => by cases hq), k, h3, comp, h4⟩, h5⟩
theorem zls1 : Cond.laysStatic "CallStages$CrossedNet" "PAIRS" "[I" ∈ lw_tbl := List.mem_append_right _ (by decide +kernel)
theorem zls2 : Cond.laysStatic "CallStages$Comparers" "ROWS_IN_WORD" "[J" ∈ lw_tbl := List.mem_append_right _ (by decide +kernel)
theorem zstatP {args : Array Value} {s : State} {A : Nat → Prop} (hg : (Jvm.Cond.and given_1 narrow_1).before args s = true) (hA : ∀ a : Nat, a < s.heap.size → ¬ A a) : ∃ t : Nat, (Term.static "CallStages$CrossedNet" "PAIRS" "[I").eval args s none [] s = some (.ref t) ∧ va_T .int t 4 (fun j => Iv (zpairs j)) A s s.heap := by
  have hf := flat_of_before _ hg
  refine va_Tof (by decide) (hf _ (by decide +kernel)) (va_eqt (z := 4) (hf _ (by decide +kernel))) (fun j hj => ?_) hA
  match j, hj with
  | 0, _ => exact va_eqt (z := 0) (hf _ (by decide +kernel))
  | 1, _ => exact va_eqt (z := 1) (hf _ (by decide +kernel))
  | 2, _ => exact va_eqt (z := 6) (hf _ (by decide +kernel))
  | 3, _ => exact va_eqt (z := 20) (hf _ (by decide +kernel))
  | j + 4, h => omega
theorem zstatR {args : Array Value} {s : State} {A : Nat → Prop} (hg : (Jvm.Cond.and given_1 narrow_1).before args s = true) (hA : ∀ a : Nat, a < s.heap.size → ¬ A a) : ∃ t : Nat, (Term.static "CallStages$Comparers" "ROWS_IN_WORD" "[J").eval args s none [] s = some (.ref t) ∧ va_T .long t 6 (fun j => Lv (zrows j)) A s s.heap := by
  have hf := flat_of_before _ hg
  refine va_Tof (by decide) (hf _ (by decide +kernel)) (va_eqt (z := 6) (hf _ (by decide +kernel))) (fun j hj => ?_) hA
  match j, hj with
  | 0, _ => exact va_eqtl (z := -6148914691236517206) (hf _ (by decide +kernel))
  | 1, _ => exact va_eqtl (z := -3689348814741910324) (hf _ (by decide +kernel))
  | 2, _ => exact va_eqtl (z := -1085102592571150096) (hf _ (by decide +kernel))
  | 3, _ => exact va_eqtl (z := -71777214294589696) (hf _ (by decide +kernel))
  | 4, _ => exact va_eqtl (z := -281470681808896) (hf _ (by decide +kernel))
  | 5, _ => exact va_eqtl (z := -4294967296) (hf _ (by decide +kernel))
  | j + 6, h => omega
theorem whole_open {Inv : zM → Prop} (HI : ∀ G, zInit G Inv) (Hp : ∀ G, zPairs G 154 Inv) {p : Program} {e : Env} {s : State} {m : MethodId} {below : List Frame} {meth : Method} {c : Code} (l : Launch) {b L : Nat} {xs : Nat → Int32} (hL : L ≤ 2560) (C0 : lw_At p s m meth c b L xs) : W p l e room_1 s m #[Value.ref b] below meth c s.heap [] 0 0 (lw_Z below #[Value.ref b] s) (entryFrame m ([Value.ref b] : List Value).toArray 4) := by
  obtain ⟨hx, hb, hr, hml, hown, hts0, hX, hbl, hlocks, hgv, hnm⟩ := id C0
  have hw : ∀ w ∈ zT, va_Nw w s := ztbl_of (fun w hm => hts0 w (zT_mem hm))
  have hts := ztbl_use hw #[Value.ref b]
  obtain ⟨c0, i0, hK0⟩ := u_known hts zcX0.2.1 (hts _ is_X0)
  obtain ⟨c1, i1, hK1⟩ := u_known hts zcX1.2.1 (hts _ is_X1)
  obtain ⟨c2, i2, hK2⟩ := u_known hts zcX2.2.1 (hts _ is_X2)
  obtain ⟨c3, i3, hK3⟩ := u_known hts zcX3.2.1 (hts _ is_X3)
  obtain ⟨c4, i4, hK4⟩ := u_known hts zcX4.2.1 (hts _ is_X4)
  obtain ⟨c5, i5, hK5⟩ := u_known hts zcX5.2.1 (hts _ is_X5)
  obtain ⟨c6, i6, hK6⟩ := u_known hts zcX6.2.1 (hts _ is_X6)
  obtain ⟨c7, i7, hK7⟩ := u_known hts zcX7.2.1 (hts _ is_X7)
  obtain ⟨c8, i8, hK8⟩ := u_known hts zcX8.2.1 (hts _ is_X8)
  have hac : ∀ ty ∈ [FieldType.int, .long, .boolean], (Cond.arrayClass ty).before #[] s = true := fun ty ht => word_at (State.WarmedH.refl s) (Or.inr ⟨ty, rfl⟩) (hts0 _ (zw_ac ht))
  have ho1 : zOv .int s := zOv_of (hts0 _ (zw_ao (by decide)))
  have ho2 : zOv .long s := zOv_of (hts0 _ (zw_ao (by decide)))
  obtain ⟨a0, hA0⟩ := zarr_of (hac .int (by decide)) (fun _ h => h)
  obtain ⟨a1, hA1⟩ := zarr_of (hac .long (by decide)) (fun _ h => h)
  obtain ⟨a2, hA2⟩ := zarr_of (hac .boolean (by decide)) (fun _ h => h)
  obtain ⟨a3, hA3⟩ := zover_of ho1
  obtain ⟨a4, hA4⟩ := zover_of ho2
  have hnA : ∀ a : Nat, a < s.heap.size → ¬ (fun q : Nat => s.heap.size ≤ q) a := fun a h => Nat.not_le.mpr h
  obtain ⟨tP, hP1, hP2⟩ := zstatP (A := fun q : Nat => s.heap.size ≤ q) hgv hnA
  obtain ⟨tR, hR1, hR2⟩ := zstatR (A := fun q : Nat => s.heap.size ≤ q) hgv hnA
  let G : zG := (l, ((fun k => [c0, c1, c2, c3, c4, c5, c6, c7, c8].getD k c0), (fun k => [i0, i1, i2, i3, i4, i5, i6, i7, i8].getD k i0)), s.heap.size, (fun k => [a0, a1, a2, a3, a4].getD k a0), tP, tR, b, L, xs)
  have hK : va_K (zD G) vwCl (zty G) s := by
    refine ⟨fun k q hq => ?_, fun k q hq => ?_⟩
    · match k, hq with
      | 0, hq => cases hq; exact hK0
      | 1, hq => cases hq; exact hK1
      | 2, hq => cases hq; exact hK2
      | 3, hq => cases hq; exact hK3
      | 4, hq => cases hq; exact hK4
      | 5, hq => cases hq; exact hK5
      | 6, hq => cases hq; exact hK6
      | 7, hq => cases hq; exact hK7
      | 8, hq => cases hq; exact hK8
      | k + 9, hq => simp [vwCl] at hq
    · match k, hq with
      | 0, hq => cases hq; exact hA0
      | 1, hq => cases hq; exact hA1
      | 2, hq => cases hq; exact hA2
      | 3, hq => cases hq; exact hA3
      | 4, hq => cases hq; exact hA4
      | k + 5, hq => simp [zty] at hq
  have hS : zSt G s s.heap := ⟨⟨va_Zof (hts0 _ zls1) (hts _ in_X1) hP1 hnA, hP2⟩, ⟨va_Zof (hts0 _ zls2) (hts _ in_X0) hR1 hnA, hR2⟩, hX, hbl, hbl⟩
  have hl := lv_entry ([.ref b]) (n := 4) (Nat.le_of_ble_eq_true rfl)
  rw [lg_entry_eq]
  have hb2 : c.code = cL_law := hb
  have hr2 : meth.sig.returnType = some .boolean := hr
  have key := law_begin (G := G) (HI G) (Hp G) hL p e s m #[Value.ref b] below meth c s.heap [] _ ⟨hx, hb2, hr2, hml, hown, hw, hK, hS, hlocks, hnm, Nat.le_refl _, ⟨hac, ho1, ho2⟩⟩ ⟨by simp [G], fun k q hq => by simp [zws] at hq, va_S.rf⟩ ⟨hl.1, hl.2.1, fun i v hv => ?_⟩
  · intro T hT X
    obtain ⟨t, st, q⟩ := key T hT X
    exact ⟨t, st, q rfl rfl⟩
  · match i, hv with
    | 0, hv =>
      simp at hv
      rw [← hv]
      exact hl.2.2 (0, .ref b) (by simp [lv_args])
    | 1, hv => simp at hv
    | 2, hv => simp at hv
    | 3, hv => simp at hv
    | i + 4, hv => simp at hv
