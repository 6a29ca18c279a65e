/-! the words: of tables alone, and good or of a nest -/
def zgood (w : Cond) : Bool := w.onTables && (goodWord w || (match w with | .fieldLinkNest _ _ _ _ _ _ => true | .methodLinkNest _ _ _ _ => true | _ => false))
def zT : List Cond := lw_tbl.filter zgood
theorem zgood_tbl : ∀ w ∈ zT, zgood w = true := fun w h => (List.mem_filter.mp h).2
theorem zT_in {w : Cond} (h : w ∈ lw_tbl) (hg : zgood w = true) : w ∈ zT := List.mem_filter.mpr ⟨h, hg⟩
theorem zT_sub {ws : List Cond} (h : ∀ w ∈ ws, w ∈ lw_tbl) (hg : ws.all zgood = true) : ∀ w ∈ ws, w ∈ zT := fun w hw => zT_in (h w hw) (List.all_eq_true.mp hg w hw)
theorem zword_warm {w : Cond} (hw : zgood w = true) {s U : State} (hW : s.WarmedH U.vm) (h : va_Nw w s) : va_Nw w U := by
  unfold zgood at hw
  simp only [Bool.and_eq_true, Bool.or_eq_true] at hw
  rcases hw.2 with h1 | h1
  · exact word_at hW (good_of_word h1) h
  · cases w with
    | fieldLinkNest a i b n d q => exact va_Nw.warmF hW h
    | methodLinkNest a i x q => exact va_Nw.warmM hW h
    | _ => simp at h1
theorem ztbl_warm {s U : State} (hW : s.WarmedH U.vm) (h : ∀ w ∈ zT, va_Nw w s) : ∀ w ∈ zT, va_Nw w U :=
  fun w hm => zword_warm (zgood_tbl w hm) hW (h w hm)
theorem ztbl_on {w : Cond} (hm : w ∈ zT) : w.onTables = true := by
  have h := zgood_tbl w hm
  unfold zgood at h
  simp only [Bool.and_eq_true] at h
  exact h.1
theorem ztbl_use {s : State} (h : ∀ w ∈ zT, va_Nw w s) (args : Array Value) : ∀ w ∈ zT, w.before args s = true := fun w hm => va_Nw.use (ztbl_on hm) (h w hm)
theorem ztbl_of {s : State} {args : Array Value} (h : ∀ w ∈ zT, w.before args s = true) : ∀ w ∈ zT, va_Nw w s := fun w hm => va_Nw.of (ztbl_on hm) (h w hm)
/-! the classes of arrays -/
def zOv (ty : FieldType) (U : State) : Prop := ∃ (comp c : ClassId) (k : Class), U.vm.findClass (FieldType.array ty).toString = some comp ∧ (U.vm.classes.findIdx? fun (x : Class) => match x.kind with | .array component _ => component == comp | _ => false) = some c ∧ U.vm.classes[c]? = some k ∧ k.kind = .array comp (.array ty) ∧ U.vm.findClass ("[" ++ (FieldType.array ty).toString) = some c
theorem zOv.moved {ty : FieldType} {u U : State} (hvm : u.vm.Alike U.vm) (h : zOv ty u) : zOv ty U := by
  obtain ⟨comp, c, k, h1, h2, h3, h4, h5⟩ := h
  obtain ⟨k', hk', he⟩ := hvm.2.2 _ _ h3
  refine ⟨comp, c, k', by rw [hvm.findClass]; exact h1, ?_, hk', by rw [he]; exact h4, by rw [hvm.findClass]; exact h5⟩
  refine Eq.trans (va_idx_bare U.vm comp).symm ?_
  rw [hvm.bare_eq]
  exact Eq.trans (va_idx_bare u.vm comp) h2
def zAr (U : State) : Prop := (∀ ty ∈ [FieldType.int, .long, .boolean], (Cond.arrayClass ty).before #[] U = true) ∧ zOv .int U ∧ zOv .long U
theorem zAr.warm {s U : State} (hW : s.WarmedH U.vm) (h : zAr s) : zAr U := ⟨fun ty ht => word_at hW (Or.inr ⟨ty, rfl⟩) (h.1 ty ht), h.2.1.moved hW.alike, h.2.2.moved hW.alike⟩
/-! the surroundings: launch, classes, the first new address, the classes of arrays, the two static arrays -/
abbrev zG : Type := Launch × va_G × Nat × (Nat → ClassId) × Nat × Nat × Nat × Nat × (Nat → Int32)
abbrev zl (G : zG) : Launch := G.1
abbrev zD (G : zG) : va_G := G.2.1
abbrev zB (G : zG) : Nat := G.2.2.1
abbrev zC (G : zG) : Nat → ClassId := G.2.2.2.1
abbrev zsP (G : zG) : Nat := G.2.2.2.2.1
abbrev zsR (G : zG) : Nat := G.2.2.2.2.2.1
abbrev zsb (G : zG) : Nat := G.2.2.2.2.2.2.1
abbrev zsL (G : zG) : Nat := G.2.2.2.2.2.2.2.1
abbrev zsx (G : zG) : Nat → Int32 := G.2.2.2.2.2.2.2.2
def zA (G : zG) : Nat → Prop := fun q => zB G ≤ q
def zty (G : zG) : List (ClassId × FieldType) := [(zC G 0, .int), (zC G 1, .long), (zC G 2, .boolean), (zC G 3, .array .int), (zC G 4, .array .long)]
def zws (B : Nat) (es : List va_E) : va_W := es.zipIdx.map (fun p => (B + p.2, p.1))
theorem zws_get {B : Nat} {es : List va_E} {k : Nat} {e : va_E} (h : es[k]? = some e) : (zws B es)[k]? = some (B + k, e) := by
  unfold zws
  rw [List.getElem?_map, List.getElem?_zipIdx, h]
  simp
theorem zws_len (B : Nat) (es : List va_E) : (zws B es).length = es.length := by simp [zws]
theorem zws_inv {B : Nat} {es : List va_E} {k : Nat} {q : Nat × va_E} (h : (zws B es)[k]? = some q) : q.1 = B + k ∧ es[k]? = some q.2 := by
  unfold zws at h
  rw [List.getElem?_map, List.getElem?_zipIdx] at h
  cases he : es[k]? with
  | none => rw [he] at h; simp at h
  | some e => rw [he] at h; simp at h; rw [← h]; simp
theorem zws_D (B : Nat) (es : List va_E) : va_D (fun q => B ≤ q) (zws B es) := by
  refine ⟨fun i j p q hi hj hpq => ?_, fun k q hk => ?_⟩
  · have h1 := (zws_inv hi).1
    have h2 := (zws_inv hj).1
    omega
  · show B ≤ q.1
    rw [(zws_inv hk).1]; omega
theorem zws_set {B : Nat} {es : List va_E} {k : Nat} {e : va_E} : (zws B es).set k (B + k, e) = zws B (es.set k e) := by
  apply List.ext_getElem?
  intro i
  by_cases hi : i = k
  · subst hi
    by_cases hl : i < es.length
    · rw [List.getElem?_set_self (by rw [zws_len]; exact hl)]
      rw [zws_get (List.getElem?_set_self hl)]
    · rw [List.getElem?_eq_none (by rw [List.length_set, zws_len]; omega), List.getElem?_eq_none (by rw [zws_len, List.length_set]; omega)]
  · rw [List.getElem?_set_ne (Ne.symm hi)]
    unfold zws
    rw [List.getElem?_map, List.getElem?_map, List.getElem?_zipIdx, List.getElem?_zipIdx, List.getElem?_set_ne (Ne.symm hi)]
theorem zws_app {B : Nat} {es : List va_E} {e : va_E} : zws B es ++ [(B + es.length, e)] = zws B (es ++ [e]) := by
  simp [zws, List.zipIdx_append]
/-! the static arrays -/
def zpairs (j : Nat) : Int := match j with | 0 => 0 | 1 => 1 | 2 => 6 | _ => 20
def zrows (j : Nat) : Int := match j with
  | 0 => -6148914691236517206 | 1 => -3689348814741910324 | 2 => -1085102592571150096
  | 3 => -71777214294589696 | 4 => -281470681808896 | _ => -4294967296
def Iv (a : Int) : Value := .int (Int32.ofInt a)
def Lv (a : Int) : Value := .long (Int64.ofInt a)
def Rv (G : zG) (k : Int) : Value := .ref (zB G + k.toNat)
def zSt (G : zG) (U : State) (H : Heap) : Prop :=
  (va_Z "CallStages$CrossedNet" "PAIRS" "[I" (.ref (zsP G)) (zA G) U H ∧ va_T .int (zsP G) 4 (fun j => Iv (zpairs j)) (zA G) U H) ∧
  (va_Z "CallStages$Comparers" "ROWS_IN_WORD" "[J" (.ref (zsR G)) (zA G) U H ∧ va_T .long (zsR G) 6 (fun j => Lv (zrows j)) (zA G) U H) ∧
  (va_X (zsb G) (zsL G) (zsx G) U H ∧ zsb G < zB G ∧ zsb G < H.size)
theorem zSt.moved {G : zG} {u U : State} {H : Heap} (hvm : u.vm.Alike U.vm) (h : zSt G u H) : zSt G U H := ⟨⟨h.1.1.moved hvm, h.1.2.moved hvm⟩, ⟨h.2.1.1.moved hvm, h.2.1.2.moved hvm⟩, ⟨h.2.2.1.moved hvm, h.2.2.2⟩⟩
theorem zSt.kept {G : zG} {U : State} {H H1 : Heap} (h : zSt G U H) (hz : H.size ≤ H1.size) (hq : ∀ a : Nat, a < H.size → ¬ zA G a → H1[a]? = H[a]?) : zSt G U H1 := ⟨⟨h.1.1.kept hq, h.1.2.kept hq⟩, ⟨h.2.1.1.kept hq, h.2.1.2.kept hq⟩, ⟨h.2.2.1.kept (hq _ h.2.2.2.2 (Nat.not_le.mpr h.2.2.2.1)), h.2.2.2.1, Nat.lt_of_lt_of_le h.2.2.2.2 hz⟩⟩
/-! locals by their place -/
def zLo (ls : Array Slot) (nL : Nat) (lv : List (Option Value)) : Prop := ls.size = nL ∧ lv_wf ls ∧ ∀ (i : Nat) (v : Value), lv[i]? = some (some v) → ls[i]? = some (.val v)
def zas (lv : List (Option Value)) : List (Nat × Value) := lv.zipIdx.filterMap (fun p => p.1.map (fun v => (p.2, v)))
theorem zas_mem {lv : List (Option Value)} {i : Nat} {v : Value} : (i, v) ∈ zas lv ↔ lv[i]? = some (some v) := by
  unfold zas
  rw [List.mem_filterMap]
  constructor
  · rintro ⟨⟨a, j⟩, h1, h2⟩
    have h3 := List.mem_zipIdx' h1
    cases a with
    | none => simp at h2
    | some x =>
      simp at h2
      obtain ⟨rfl, rfl⟩ := h2
      rw [List.getElem?_eq_some_iff]
      exact ⟨h3.1, h3.2.symm⟩
  · intro h
    refine ⟨(some v, i), ?_, by simp⟩
    rw [List.mem_zipIdx_iff_getElem?]
    simpa using h
theorem zLo.has {ls : Array Slot} {nL : Nat} {lv : List (Option Value)} (h : zLo ls nL lv) : lv_has ls nL (zas lv) := ⟨h.1, h.2.1, fun q hq => h.2.2 q.1 q.2 (zas_mem.mp hq)⟩
/-- no long stands just ahead of place i -/
def zah (lv : List (Option Value)) (i : Nat) : Bool := match i with
  | 0 => true
  | j + 1 => match lv[j]? with
    | some (some v) => v.category != 2
    | _ => true
theorem zLo.set1 {ls ls' : Array Slot} {nL i : Nat} {lv : List (Option Value)} {v : Value} (hz : zah lv i = true) (h : lv_has ls' nL ((i, v) :: (zas lv).filter (fun q => !(q.1 == i) && !(q.1 + 1 == i && q.2.category == 2)))) : zLo ls' nL (lv.set i (some v)) := by
  refine ⟨h.1, h.2.1, fun j x hj => ?_⟩
  by_cases e : j = i
  · subst e
    have hl : j < lv.length := by
      rcases Nat.lt_or_ge j lv.length with q | q
      · exact q
      · rw [List.getElem?_eq_none (by rw [List.length_set]; exact q)] at hj; cases hj
    rw [List.getElem?_set_self hl] at hj
    simp at hj
    subst hj
    exact h.2.2 (j, v) List.mem_cons_self
  · rw [List.getElem?_set_ne (Ne.symm e)] at hj
    refine h.2.2 (j, x) (List.mem_cons_of_mem _ (List.mem_filter.mpr ⟨zas_mem.mpr hj, ?_⟩))
    by_cases e1 : j + 1 = i
    · subst e1
      simp only [zah, hj] at hz
      simp at hz
      simp [hz]
    · simp [e, e1]
theorem zLo.set2 {ls ls' : Array Slot} {nL i : Nat} {lv : List (Option Value)} {v : Value} (hz : zah lv i = true) (h : lv_has ls' nL ((i, v) :: (zas lv).filter (fun q => !(q.1 == i) && (!(q.1 == i + 1) && !(q.1 + 1 == i && q.2.category == 2))))) : zLo ls' nL ((lv.set i (some v)).set (i + 1) none) := by
  refine ⟨h.1, h.2.1, fun j x hj => ?_⟩
  by_cases e2 : j = i + 1
  · subst e2
    rcases Nat.lt_or_ge (i + 1) (lv.set i (some v)).length with q | q
    · rw [List.getElem?_set_self q] at hj; cases hj
    · rw [List.getElem?_eq_none (by rw [List.length_set]; exact q)] at hj; cases hj
  rw [List.getElem?_set_ne (Ne.symm e2)] at hj
  by_cases e : j = i
  · subst e
    have hl : j < lv.length := by
      rcases Nat.lt_or_ge j lv.length with q | q
      · exact q
      · rw [List.getElem?_eq_none (by rw [List.length_set]; exact q)] at hj; cases hj
    rw [List.getElem?_set_self hl] at hj
    simp at hj
    subst hj
    exact h.2.2 (j, v) List.mem_cons_self
  · rw [List.getElem?_set_ne (Ne.symm e)] at hj
    refine h.2.2 (j, x) (List.mem_cons_of_mem _ (List.mem_filter.mpr ⟨zas_mem.mpr hj, ?_⟩))
    by_cases e1 : j + 1 = i
    · subst e1
      simp only [zah, hj] at hz
      simp at hz
      simp [hz, e2]
    · simp [e, e1, e2]
/-! the judgement -/
def zAt (G : zG) (own nm : String) (cc : ByteArray) (nL : Nat) (ret : Option FieldType) (p : Program) (s : State) (m : MethodId) (meth : Method) (c : Code) : Prop :=
  p.tables.exec = Jvm.exec ∧ c.code = cc ∧ meth.sig.returnType = ret ∧ c.maxLocals = nL ∧ s.vm.findClass own = some m.cls ∧ (∀ w ∈ zT, va_Nw w s) ∧ va_K (zD G) vwCl (zty G) s ∧ zSt G s s.heap ∧ meth.locks = false ∧ meth.name = nm ∧ zB G ≤ s.heap.size ∧ zAr s
def zHp (G : zG) (es : List va_E) (s : State) (H : Heap) (locs : List Loc) : Prop := H.size = zB G + es.length ∧ va_P (zD G) vwCl (zws (zB G) es) H ∧ va_S (zA G) s.heap H locs
abbrev zPhi : Type := List Frame → Array Value → State → State → Prop
def Z (G : zG) (R : Room) (own nm : String) (cc : ByteArray) (nL : Nat) (ret : Option FieldType) (Φ : zPhi) (kc ks pc : Nat) (lv : List (Option Value)) (st : List Value) (es : List va_E) : Prop :=
  ∀ (p : Program) (e : Env) (s : State) (m : MethodId) (args : Array Value) (below : List Frame) (meth : Method) (c : Code) (H : Heap) (locs : List Loc) (ls : Array Slot),
    zAt G own nm cc nL ret p s m meth c → zHp G es s H locs → zLo ls nL lv → W p (zl G) e R s m args below meth c H locs kc ks (Φ below args s) (F0 m pc ls st)
def wr (a : Int) : Int := (Int32.ofInt a).toInt
def wl (a : Int) : Int := (Int64.ofInt a).toInt
theorem wr_of {a : Int} (h1 : -2147483648 ≤ a) (h2 : a < 2147483648) : wr a = a := Int32.toInt_ofInt_of_le (by omega) (by omega)
theorem wl_of {a : Int} (h1 : -9223372036854775808 ≤ a) (h2 : a < 9223372036854775808) : wl a = a := Int64.toInt_ofInt_of_le (by omega) (by omega)
theorem wr_lo (a : Int) : -2147483648 ≤ wr a := Int32.le_toInt _
theorem wr_hi (a : Int) : wr a < 2147483648 := Int32.toInt_lt _
theorem wl_lo (a : Int) : -9223372036854775808 ≤ wl a := Int64.le_toInt _
theorem wl_hi (a : Int) : wl a < 9223372036854775808 := Int64.toInt_lt _
theorem Iv_wr (a : Int) : Iv (wr a) = Iv a := by unfold Iv wr; rw [Int32.ofInt_toInt]
theorem Iv_of (x : Int32) : Value.int x = Iv x.toInt := by unfold Iv; rw [Int32.ofInt_toInt]
theorem Lv_of (x : Int64) : Value.long x = Lv x.toInt := by unfold Lv; rw [Int64.ofInt_toInt]
def zand (a b : Int) : Int := (Int32.ofInt a &&& Int32.ofInt b).toInt
def zor (a b : Int) : Int := (Int32.ofInt a ||| Int32.ofInt b).toInt
def zxor (a b : Int) : Int := (Int32.ofInt a ^^^ Int32.ofInt b).toInt
def zshl (a b : Int) : Int := (Int32.ofInt a <<< (Int32.ofInt b &&& 31)).toInt
def zshr (a b : Int) : Int := (Int32.ofInt a >>> (Int32.ofInt b &&& 31)).toInt
def zdiv (a b : Int) : Int := (Int32.ofInt a / Int32.ofInt b).toInt
def zrem (a b : Int) : Int := (Int32.ofInt a - Int32.ofInt a / Int32.ofInt b * Int32.ofInt b).toInt
def zi2b (a : Int) : Int := (Int32.ofInt a).toInt8.toInt32.toInt
def zi2s (a : Int) : Int := (Int32.ofInt a).toInt16.toInt32.toInt
def zl2i (a : Int) : Int := (Int64.ofInt a).toInt32.toInt
def zland (a b : Int) : Int := (Int64.ofInt a &&& Int64.ofInt b).toInt
def zlor (a b : Int) : Int := (Int64.ofInt a ||| Int64.ofInt b).toInt
def zlxor (a b : Int) : Int := (Int64.ofInt a ^^^ Int64.ofInt b).toInt
def zlshl (a b : Int) : Int := (Int64.ofInt a <<< ((Int32.ofInt b).toInt64 &&& 63)).toInt
def zlushr (a b : Int) : Int := ((Int64.ofInt a).toUInt64 >>> ((Int32.ofInt b).toInt64.toUInt64 &&& Int64.toUInt64 63)).toInt64.toInt
def zldiv (a b : Int) : Int := (Int64.ofInt a / Int64.ofInt b).toInt
def zlrem (a b : Int) : Int := (Int64.ofInt a - Int64.ofInt a / Int64.ofInt b * Int64.ofInt b).toInt
def zlcmp (a b : Int) : Int := (lg_cmp (Int64.ofInt a) (Int64.ofInt b)).toInt
theorem wl_i2l (a : Int) : (Int32.ofInt a).toInt64 = Int64.ofInt (wr a) := by
  apply Int64.toInt.inj
  rw [Int32.toInt_toInt64]
  have h := wl_of (a := wr a) (by have := wr_lo a; omega) (by have := wr_hi a; omega)
  unfold wl at h
  rw [h]; rfl
section ZR
variable {G : zG} {R : Room} {own nm : String} {cc : ByteArray} {nL : Nat} {ret : Option FieldType} {Φ : zPhi} {kc ks pc : Nat} {lv : List (Option Value)} {st : List Value} {es : List va_E}
theorem Z.weak {lv' : List (Option Value)} (h : ∀ (i : Nat) (v : Value), lv'[i]? = some (some v) → lv[i]? = some (some v)) (k : Z G R own nm cc nL ret Φ kc ks pc lv' st es) : Z G R own nm cc nL ret Φ kc ks pc lv st es :=
  fun p e s m args below meth c H locs ls hA hH hL => k p e s m args below meth c H locs ls hA hH ⟨hL.1, hL.2.1, fun i v hv => hL.2.2 i v (h i v hv)⟩

theorem Z_iconst {n : Int} (hd : decode cc pc = .ok (.iconst n, 1)) (k : Z G R own nm cc nL ret Φ kc ks (pc + 1) lv (Iv n :: st) es) : Z G R own nm cc nL ret Φ kc ks pc lv (st) es := by
  intro p e s m args below meth c H locs ls hA hH hL
  obtain ⟨hx, hb, hr, hml, hown, hw, hK, hS, hlk, hnm, hB, hAr⟩ := id hA
  exact lv_iconst hx hb hd rfl (k p e s m args below meth c H locs ls hA hH hL)
theorem Z_bipush {n : Int} (hd : decode cc pc = .ok (.bipush n, 2)) (hn : (Int8.ofInt n).toInt32 = Int32.ofInt n) (k : Z G R own nm cc nL ret Φ kc ks (pc + 2) lv (Iv n :: st) es) : Z G R own nm cc nL ret Φ kc ks pc lv (st) es := by
  intro p e s m args below meth c H locs ls hA hH hL
  obtain ⟨hx, hb, hr, hml, hown, hw, hK, hS, hlk, hnm, hB, hAr⟩ := id hA
  exact lv_bipush hx hb hd hn (k p e s m args below meth c H locs ls hA hH hL)
theorem Z_sipush {n : Int} (hd : decode cc pc = .ok (.sipush n, 3)) (hn : (Int16.ofInt n).toInt32 = Int32.ofInt n) (k : Z G R own nm cc nL ret Φ kc ks (pc + 3) lv (Iv n :: st) es) : Z G R own nm cc nL ret Φ kc ks pc lv (st) es := by
  intro p e s m args below meth c H locs ls hA hH hL
  obtain ⟨hx, hb, hr, hml, hown, hw, hK, hS, hlk, hnm, hB, hAr⟩ := id hA
  exact lv_sipush hx hb hd hn (k p e s m args below meth c H locs ls hA hH hL)
theorem Z_lconst {n : Fin 2} {a : Int} (hd : decode cc pc = .ok (.lconst n, 1)) (ha : Int64.ofNat (n : Nat) = Int64.ofInt a) (k : Z G R own nm cc nL ret Φ kc ks (pc + 1) lv (Lv a :: st) es) : Z G R own nm cc nL ret Φ kc ks pc lv (st) es := by
  intro p e s m args below meth c H locs ls hA hH hL
  obtain ⟨hx, hb, hr, hml, hown, hw, hK, hS, hlk, hnm, hB, hAr⟩ := id hA
  exact lv_lconst hx hb hd ha (k p e s m args below meth c H locs ls hA hH hL)
theorem Z_ldc2 {i : Nat} {v : Int64} {a : Int} (hd : decode cc pc = .ok (.ldc2_w i, 3)) (hc : Cond.constantLong own i v ∈ zT) (ha : v = Int64.ofInt a) (k : Z G R own nm cc nL ret Φ kc ks (pc + 3) lv (Lv a :: st) es) : Z G R own nm cc nL ret Φ kc ks pc lv (st) es := by
  intro p e s m args below meth c H locs ls hA hH hL
  obtain ⟨hx, hb, hr, hml, hown, hw, hK, hS, hlk, hnm, hB, hAr⟩ := id hA
  subst ha
  exact lv_ldc2 hx hb hown (ztbl_use hw args _ hc) hd (k p e s m args below meth c H locs ls hA hH hL)
theorem Z_iload_n {q : Fin 4} {a : Int} (hd : decode cc pc = .ok (.iload_n q, 1)) (hv : lv[(q : Nat)]? = some (some (Iv a))) (k : Z G R own nm cc nL ret Φ kc ks (pc + 1) lv (Iv a :: st) es) : Z G R own nm cc nL ret Φ kc ks pc lv (st) es := by
  intro p e s m args below meth c H locs ls hA hH hL
  obtain ⟨hx, hb, hr, hml, hown, hw, hK, hS, hlk, hnm, hB, hAr⟩ := id hA
  exact lv_iload_n hx hb hd rfl (hL.2.2 _ _ hv) (k p e s m args below meth c H locs ls hA hH hL)
theorem Z_iload {q : Nat} {a : Int} (hd : decode cc pc = .ok (.iload q, 2)) (hv : lv[q]? = some (some (Iv a))) (k : Z G R own nm cc nL ret Φ kc ks (pc + 2) lv (Iv a :: st) es) : Z G R own nm cc nL ret Φ kc ks pc lv (st) es := by
  intro p e s m args below meth c H locs ls hA hH hL
  obtain ⟨hx, hb, hr, hml, hown, hw, hK, hS, hlk, hnm, hB, hAr⟩ := id hA
  exact lv_iload hx hb hd (hL.2.2 _ _ hv) (k p e s m args below meth c H locs ls hA hH hL)
theorem Z_lload_n {q : Fin 4} {a : Int} (hd : decode cc pc = .ok (.lload_n q, 1)) (hv : lv[(q : Nat)]? = some (some (Lv a))) (k : Z G R own nm cc nL ret Φ kc ks (pc + 1) lv (Lv a :: st) es) : Z G R own nm cc nL ret Φ kc ks pc lv (st) es := by
  intro p e s m args below meth c H locs ls hA hH hL
  obtain ⟨hx, hb, hr, hml, hown, hw, hK, hS, hlk, hnm, hB, hAr⟩ := id hA
  exact lv_lload_n hx hb hd rfl (hL.2.2 _ _ hv) (k p e s m args below meth c H locs ls hA hH hL)
theorem Z_lload {q : Nat} {a : Int} (hd : decode cc pc = .ok (.lload q, 2)) (hv : lv[q]? = some (some (Lv a))) (k : Z G R own nm cc nL ret Φ kc ks (pc + 2) lv (Lv a :: st) es) : Z G R own nm cc nL ret Φ kc ks pc lv (st) es := by
  intro p e s m args below meth c H locs ls hA hH hL
  obtain ⟨hx, hb, hr, hml, hown, hw, hK, hS, hlk, hnm, hB, hAr⟩ := id hA
  exact lv_lload hx hb hd (hL.2.2 _ _ hv) (k p e s m args below meth c H locs ls hA hH hL)
theorem Z_aload_n {q : Fin 4} {a : Int} (hd : decode cc pc = .ok (.aload_n q, 1)) (hv : lv[(q : Nat)]? = some (some (Rv G a))) (k : Z G R own nm cc nL ret Φ kc ks (pc + 1) lv (Rv G a :: st) es) : Z G R own nm cc nL ret Φ kc ks pc lv (st) es := by
  intro p e s m args below meth c H locs ls hA hH hL
  obtain ⟨hx, hb, hr, hml, hown, hw, hK, hS, hlk, hnm, hB, hAr⟩ := id hA
  exact lv_aload_n hx hb hd rfl (hL.2.2 _ _ hv) (k p e s m args below meth c H locs ls hA hH hL)
theorem Z_aload {q : Nat} {a : Int} (hd : decode cc pc = .ok (.aload q, 2)) (hv : lv[q]? = some (some (Rv G a))) (k : Z G R own nm cc nL ret Φ kc ks (pc + 2) lv (Rv G a :: st) es) : Z G R own nm cc nL ret Φ kc ks pc lv (st) es := by
  intro p e s m args below meth c H locs ls hA hH hL
  obtain ⟨hx, hb, hr, hml, hown, hw, hK, hS, hlk, hnm, hB, hAr⟩ := id hA
  exact lv_aload hx hb hd (hL.2.2 _ _ hv) (k p e s m args below meth c H locs ls hA hH hL)
theorem Z_aload_nr {q : Fin 4} {a : Nat} (hd : decode cc pc = .ok (.aload_n q, 1)) (hv : lv[(q : Nat)]? = some (some (.ref a))) (k : Z G R own nm cc nL ret Φ kc ks (pc + 1) lv (.ref a :: st) es) : Z G R own nm cc nL ret Φ kc ks pc lv (st) es := by
  intro p e s m args below meth c H locs ls hA hH hL
  obtain ⟨hx, hb, hr, hml, hown, hw, hK, hS, hlk, hnm, hB, hAr⟩ := id hA
  exact lv_aload_n hx hb hd rfl (hL.2.2 _ _ hv) (k p e s m args below meth c H locs ls hA hH hL)
theorem Z_istore_n {q : Fin 4} {a : Int} {lv2 : List (Option Value)} (hd : decode cc pc = .ok (.istore_n q, 1)) (hz : zah lv q = true) (hn : (q : Nat) < nL) (hl : lv.set (q : Nat) (some (Iv a)) = lv2) (k : Z G R own nm cc nL ret Φ kc ks (pc + 1) lv2 (st) es) : Z G R own nm cc nL ret Φ kc ks pc lv (Iv a :: st) es := by
  intro p e s m args below meth c H locs ls hA hH hL
  obtain ⟨hx, hb, hr, hml, hown, hw, hK, hS, hlk, hnm, hB, hAr⟩ := id hA
  subst hl
  exact lv_istore_n hx hb hd rfl hL.has hn rfl (fun ls2 h2 => k p e s m args below meth c H locs ls2 hA hH (zLo.set1 (ls := ls) hz h2))
theorem Z_istore {q : Nat} {a : Int} {lv2 : List (Option Value)} (hd : decode cc pc = .ok (.istore q, 2)) (hz : zah lv q = true) (hn : q < nL) (hl : lv.set q (some (Iv a)) = lv2) (k : Z G R own nm cc nL ret Φ kc ks (pc + 2) lv2 (st) es) : Z G R own nm cc nL ret Φ kc ks pc lv (Iv a :: st) es := by
  intro p e s m args below meth c H locs ls hA hH hL
  obtain ⟨hx, hb, hr, hml, hown, hw, hK, hS, hlk, hnm, hB, hAr⟩ := id hA
  subst hl
  exact lv_istore hx hb hd hL.has hn rfl (fun ls2 h2 => k p e s m args below meth c H locs ls2 hA hH (zLo.set1 (ls := ls) hz h2))
theorem Z_astore_n {q : Fin 4} {a : Int} {lv2 : List (Option Value)} (hd : decode cc pc = .ok (.astore_n q, 1)) (hz : zah lv q = true) (hn : (q : Nat) < nL) (hl : lv.set (q : Nat) (some (Rv G a)) = lv2) (k : Z G R own nm cc nL ret Φ kc ks (pc + 1) lv2 (st) es) : Z G R own nm cc nL ret Φ kc ks pc lv (Rv G a :: st) es := by
  intro p e s m args below meth c H locs ls hA hH hL
  obtain ⟨hx, hb, hr, hml, hown, hw, hK, hS, hlk, hnm, hB, hAr⟩ := id hA
  subst hl
  exact lv_astore_n hx hb hd rfl hL.has hn rfl (fun ls2 h2 => k p e s m args below meth c H locs ls2 hA hH (zLo.set1 (ls := ls) hz h2))
theorem Z_astore {q : Nat} {a : Int} {lv2 : List (Option Value)} (hd : decode cc pc = .ok (.astore q, 2)) (hz : zah lv q = true) (hn : q < nL) (hl : lv.set q (some (Rv G a)) = lv2) (k : Z G R own nm cc nL ret Φ kc ks (pc + 2) lv2 (st) es) : Z G R own nm cc nL ret Φ kc ks pc lv (Rv G a :: st) es := by
  intro p e s m args below meth c H locs ls hA hH hL
  obtain ⟨hx, hb, hr, hml, hown, hw, hK, hS, hlk, hnm, hB, hAr⟩ := id hA
  subst hl
  exact lv_astore hx hb hd hL.has hn rfl (fun ls2 h2 => k p e s m args below meth c H locs ls2 hA hH (zLo.set1 (ls := ls) hz h2))
theorem Z_lstore_n {q : Fin 4} {a : Int} {lv2 : List (Option Value)} (hd : decode cc pc = .ok (.lstore_n q, 1)) (hz : zah lv q = true) (hn : (q : Nat) + 1 < nL) (hl : (lv.set (q : Nat) (some (Lv a))).set (q + 1) none = lv2) (k : Z G R own nm cc nL ret Φ kc ks (pc + 1) lv2 (st) es) : Z G R own nm cc nL ret Φ kc ks pc lv (Lv a :: st) es := by
  intro p e s m args below meth c H locs ls hA hH hL
  obtain ⟨hx, hb, hr, hml, hown, hw, hK, hS, hlk, hnm, hB, hAr⟩ := id hA
  subst hl
  exact lv_lstore_n hx hb hd rfl hL.has hn rfl (fun ls2 h2 => k p e s m args below meth c H locs ls2 hA hH (zLo.set2 (ls := ls) hz h2))
theorem Z_lstore {q : Nat} {a : Int} {lv2 : List (Option Value)} (hd : decode cc pc = .ok (.lstore q, 2)) (hz : zah lv q = true) (hn : q + 1 < nL) (hl : (lv.set q (some (Lv a))).set (q + 1) none = lv2) (k : Z G R own nm cc nL ret Φ kc ks (pc + 2) lv2 (st) es) : Z G R own nm cc nL ret Φ kc ks pc lv (Lv a :: st) es := by
  intro p e s m args below meth c H locs ls hA hH hL
  obtain ⟨hx, hb, hr, hml, hown, hw, hK, hS, hlk, hnm, hB, hAr⟩ := id hA
  subst hl
  exact lv_lstore hx hb hd hL.has hn rfl (fun ls2 h2 => k p e s m args below meth c H locs ls2 hA hH (zLo.set2 (ls := ls) hz h2))
theorem Z_iinc {q : Nat} {n a : Int} {lv2 : List (Option Value)} (hd : decode cc pc = .ok (.iinc q n, 3)) (hv : lv[q]? = some (some (Iv a))) (hz : zah lv q = true) (hn : q < nL) (hl : lv.set q (some (Iv (a + n))) = lv2) (k : Z G R own nm cc nL ret Φ kc ks (pc + 3) lv2 st es) : Z G R own nm cc nL ret Φ kc ks pc lv st es := by
  intro p e s m args below meth c H locs ls hA hH hL
  obtain ⟨hx, hb, hr, hml, hown, hw, hK, hS, hlk, hnm, hB, hAr⟩ := id hA
  subst hl
  obtain ⟨j, hj⟩ := List.getElem?_of_mem (zas_mem.mpr hv)
  exact lv_iinc hx hb hd hL.has (k := j) hj (v := Int32.ofInt (a + n)) (by rw [Int32.ofInt_add]) hn rfl (fun ls2 h2 => k p e s m args below meth c H locs ls2 hA hH (zLo.set1 (ls := ls) hz h2))
theorem Z_iadd {a b : Int} (hd : decode cc pc = .ok (.iadd, 1)) (k : Z G R own nm cc nL ret Φ kc ks (pc + 1) lv (Iv (a + b) :: st) es) : Z G R own nm cc nL ret Φ kc ks pc lv (Iv b :: Iv a :: st) es := by
  intro p e s m args below meth c H locs ls hA hH hL
  obtain ⟨hx, hb, hr, hml, hown, hw, hK, hS, hlk, hnm, hB, hAr⟩ := id hA
  refine lv_iadd hx hb hd ?_
  have h := k p e s m args below meth c H locs ls hA hH hL
  unfold Iv at h
  rw [Int32.ofInt_add] at h
  exact h
theorem Z_isub {a b : Int} (hd : decode cc pc = .ok (.isub, 1)) (k : Z G R own nm cc nL ret Φ kc ks (pc + 1) lv (Iv (a - b) :: st) es) : Z G R own nm cc nL ret Φ kc ks pc lv (Iv b :: Iv a :: st) es := by
  intro p e s m args below meth c H locs ls hA hH hL
  obtain ⟨hx, hb, hr, hml, hown, hw, hK, hS, hlk, hnm, hB, hAr⟩ := id hA
  refine lv_isub hx hb hd ?_
  have h := k p e s m args below meth c H locs ls hA hH hL
  unfold Iv at h
  rw [Int32.ofInt_sub] at h
  exact h
theorem Z_imul {a b : Int} (hd : decode cc pc = .ok (.imul, 1)) (k : Z G R own nm cc nL ret Φ kc ks (pc + 1) lv (Iv (a * b) :: st) es) : Z G R own nm cc nL ret Φ kc ks pc lv (Iv b :: Iv a :: st) es := by
  intro p e s m args below meth c H locs ls hA hH hL
  obtain ⟨hx, hb, hr, hml, hown, hw, hK, hS, hlk, hnm, hB, hAr⟩ := id hA
  refine lv_imul hx hb hd ?_
  have h := k p e s m args below meth c H locs ls hA hH hL
  unfold Iv at h
  rw [Int32.ofInt_mul] at h
  exact h
theorem Z_iand {a b : Int} (hd : decode cc pc = .ok (.iand, 1)) (k : Z G R own nm cc nL ret Φ kc ks (pc + 1) lv (Iv (zand a b) :: st) es) : Z G R own nm cc nL ret Φ kc ks pc lv (Iv b :: Iv a :: st) es := by
  intro p e s m args below meth c H locs ls hA hH hL
  obtain ⟨hx, hb, hr, hml, hown, hw, hK, hS, hlk, hnm, hB, hAr⟩ := id hA
  refine lv_iand hx hb hd ?_
  have h := k p e s m args below meth c H locs ls hA hH hL
  unfold Iv zand at h
  rw [Int32.ofInt_toInt] at h
  exact h
theorem Z_ior {a b : Int} (hd : decode cc pc = .ok (.ior, 1)) (k : Z G R own nm cc nL ret Φ kc ks (pc + 1) lv (Iv (zor a b) :: st) es) : Z G R own nm cc nL ret Φ kc ks pc lv (Iv b :: Iv a :: st) es := by
  intro p e s m args below meth c H locs ls hA hH hL
  obtain ⟨hx, hb, hr, hml, hown, hw, hK, hS, hlk, hnm, hB, hAr⟩ := id hA
  refine lv_ior hx hb hd ?_
  have h := k p e s m args below meth c H locs ls hA hH hL
  unfold Iv zor at h
  rw [Int32.ofInt_toInt] at h
  exact h
theorem Z_ixor {a b : Int} (hd : decode cc pc = .ok (.ixor, 1)) (k : Z G R own nm cc nL ret Φ kc ks (pc + 1) lv (Iv (zxor a b) :: st) es) : Z G R own nm cc nL ret Φ kc ks pc lv (Iv b :: Iv a :: st) es := by
  intro p e s m args below meth c H locs ls hA hH hL
  obtain ⟨hx, hb, hr, hml, hown, hw, hK, hS, hlk, hnm, hB, hAr⟩ := id hA
  refine lv_ixor hx hb hd ?_
  have h := k p e s m args below meth c H locs ls hA hH hL
  unfold Iv zxor at h
  rw [Int32.ofInt_toInt] at h
  exact h
theorem Z_ishl {a b : Int} (hd : decode cc pc = .ok (.ishl, 1)) (k : Z G R own nm cc nL ret Φ kc ks (pc + 1) lv (Iv (zshl a b) :: st) es) : Z G R own nm cc nL ret Φ kc ks pc lv (Iv b :: Iv a :: st) es := by
  intro p e s m args below meth c H locs ls hA hH hL
  obtain ⟨hx, hb, hr, hml, hown, hw, hK, hS, hlk, hnm, hB, hAr⟩ := id hA
  refine lv_ishl hx hb hd ?_
  have h := k p e s m args below meth c H locs ls hA hH hL
  unfold Iv zshl at h
  rw [Int32.ofInt_toInt] at h
  exact h
theorem Z_ishr {a b : Int} (hd : decode cc pc = .ok (.ishr, 1)) (k : Z G R own nm cc nL ret Φ kc ks (pc + 1) lv (Iv (zshr a b) :: st) es) : Z G R own nm cc nL ret Φ kc ks pc lv (Iv b :: Iv a :: st) es := by
  intro p e s m args below meth c H locs ls hA hH hL
  obtain ⟨hx, hb, hr, hml, hown, hw, hK, hS, hlk, hnm, hB, hAr⟩ := id hA
  refine lv_ishr hx hb hd ?_
  have h := k p e s m args below meth c H locs ls hA hH hL
  unfold Iv zshr at h
  rw [Int32.ofInt_toInt] at h
  exact h
theorem Z_idiv {a b : Int} (hd : decode cc pc = .ok (.idiv, 1)) (h0 : wr b ≠ 0) (k : Z G R own nm cc nL ret Φ kc ks (pc + 1) lv (Iv (zdiv a b) :: st) es) : Z G R own nm cc nL ret Φ kc ks pc lv (Iv b :: Iv a :: st) es := by
  intro p e s m args below meth c H locs ls hA hH hL
  obtain ⟨hx, hb, hr, hml, hown, hw, hK, hS, hlk, hnm, hB, hAr⟩ := id hA
  refine lv_idiv hx hb hd (fun q => h0 (by unfold wr; rw [q]; rfl)) ?_
  have h := k p e s m args below meth c H locs ls hA hH hL
  unfold Iv zdiv at h
  rw [Int32.ofInt_toInt] at h
  exact h
theorem Z_irem {a b : Int} (hd : decode cc pc = .ok (.irem, 1)) (h0 : wr b ≠ 0) (k : Z G R own nm cc nL ret Φ kc ks (pc + 1) lv (Iv (zrem a b) :: st) es) : Z G R own nm cc nL ret Φ kc ks pc lv (Iv b :: Iv a :: st) es := by
  intro p e s m args below meth c H locs ls hA hH hL
  obtain ⟨hx, hb, hr, hml, hown, hw, hK, hS, hlk, hnm, hB, hAr⟩ := id hA
  refine lv_irem hx hb hd (fun q => h0 (by unfold wr; rw [q]; rfl)) ?_
  have h := k p e s m args below meth c H locs ls hA hH hL
  unfold Iv zrem at h
  rw [Int32.ofInt_toInt] at h
  exact h
theorem Z_ladd {a b : Int} (hd : decode cc pc = .ok (.ladd, 1)) (k : Z G R own nm cc nL ret Φ kc ks (pc + 1) lv (Lv (a + b) :: st) es) : Z G R own nm cc nL ret Φ kc ks pc lv (Lv b :: Lv a :: st) es := by
  intro p e s m args below meth c H locs ls hA hH hL
  obtain ⟨hx, hb, hr, hml, hown, hw, hK, hS, hlk, hnm, hB, hAr⟩ := id hA
  refine lv_ladd hx hb hd ?_
  have h := k p e s m args below meth c H locs ls hA hH hL
  unfold Lv at h
  rw [Int64.ofInt_add] at h
  exact h
theorem Z_lsub {a b : Int} (hd : decode cc pc = .ok (.lsub, 1)) (k : Z G R own nm cc nL ret Φ kc ks (pc + 1) lv (Lv (a - b) :: st) es) : Z G R own nm cc nL ret Φ kc ks pc lv (Lv b :: Lv a :: st) es := by
  intro p e s m args below meth c H locs ls hA hH hL
  obtain ⟨hx, hb, hr, hml, hown, hw, hK, hS, hlk, hnm, hB, hAr⟩ := id hA
  refine lv_lsub hx hb hd ?_
  have h := k p e s m args below meth c H locs ls hA hH hL
  unfold Lv at h
  rw [Int64.ofInt_sub] at h
  exact h
theorem Z_lmul {a b : Int} (hd : decode cc pc = .ok (.lmul, 1)) (k : Z G R own nm cc nL ret Φ kc ks (pc + 1) lv (Lv (a * b) :: st) es) : Z G R own nm cc nL ret Φ kc ks pc lv (Lv b :: Lv a :: st) es := by
  intro p e s m args below meth c H locs ls hA hH hL
  obtain ⟨hx, hb, hr, hml, hown, hw, hK, hS, hlk, hnm, hB, hAr⟩ := id hA
  refine lv_lmul hx hb hd ?_
  have h := k p e s m args below meth c H locs ls hA hH hL
  unfold Lv at h
  rw [Int64.ofInt_mul] at h
  exact h
theorem Z_land {a b : Int} (hd : decode cc pc = .ok (.land, 1)) (k : Z G R own nm cc nL ret Φ kc ks (pc + 1) lv (Lv (zland a b) :: st) es) : Z G R own nm cc nL ret Φ kc ks pc lv (Lv b :: Lv a :: st) es := by
  intro p e s m args below meth c H locs ls hA hH hL
  obtain ⟨hx, hb, hr, hml, hown, hw, hK, hS, hlk, hnm, hB, hAr⟩ := id hA
  refine lv_land hx hb hd ?_
  have h := k p e s m args below meth c H locs ls hA hH hL
  unfold Lv zland at h
  rw [Int64.ofInt_toInt] at h
  exact h
theorem Z_lor {a b : Int} (hd : decode cc pc = .ok (.lor, 1)) (k : Z G R own nm cc nL ret Φ kc ks (pc + 1) lv (Lv (zlor a b) :: st) es) : Z G R own nm cc nL ret Φ kc ks pc lv (Lv b :: Lv a :: st) es := by
  intro p e s m args below meth c H locs ls hA hH hL
  obtain ⟨hx, hb, hr, hml, hown, hw, hK, hS, hlk, hnm, hB, hAr⟩ := id hA
  refine lv_lor hx hb hd ?_
  have h := k p e s m args below meth c H locs ls hA hH hL
  unfold Lv zlor at h
  rw [Int64.ofInt_toInt] at h
  exact h
theorem Z_lxor {a b : Int} (hd : decode cc pc = .ok (.lxor, 1)) (k : Z G R own nm cc nL ret Φ kc ks (pc + 1) lv (Lv (zlxor a b) :: st) es) : Z G R own nm cc nL ret Φ kc ks pc lv (Lv b :: Lv a :: st) es := by
  intro p e s m args below meth c H locs ls hA hH hL
  obtain ⟨hx, hb, hr, hml, hown, hw, hK, hS, hlk, hnm, hB, hAr⟩ := id hA
  refine lv_lxor hx hb hd ?_
  have h := k p e s m args below meth c H locs ls hA hH hL
  unfold Lv zlxor at h
  rw [Int64.ofInt_toInt] at h
  exact h
theorem Z_ldiv {a b : Int} (hd : decode cc pc = .ok (.ldiv, 1)) (h0 : wl b ≠ 0) (k : Z G R own nm cc nL ret Φ kc ks (pc + 1) lv (Lv (zldiv a b) :: st) es) : Z G R own nm cc nL ret Φ kc ks pc lv (Lv b :: Lv a :: st) es := by
  intro p e s m args below meth c H locs ls hA hH hL
  obtain ⟨hx, hb, hr, hml, hown, hw, hK, hS, hlk, hnm, hB, hAr⟩ := id hA
  refine lv_ldiv hx hb hd (fun q => h0 (by unfold wl; rw [q]; rfl)) ?_
  have h := k p e s m args below meth c H locs ls hA hH hL
  unfold Lv zldiv at h
  rw [Int64.ofInt_toInt] at h
  exact h
theorem Z_lrem {a b : Int} (hd : decode cc pc = .ok (.lrem, 1)) (h0 : wl b ≠ 0) (k : Z G R own nm cc nL ret Φ kc ks (pc + 1) lv (Lv (zlrem a b) :: st) es) : Z G R own nm cc nL ret Φ kc ks pc lv (Lv b :: Lv a :: st) es := by
  intro p e s m args below meth c H locs ls hA hH hL
  obtain ⟨hx, hb, hr, hml, hown, hw, hK, hS, hlk, hnm, hB, hAr⟩ := id hA
  refine lv_lrem hx hb hd (fun q => h0 (by unfold wl; rw [q]; rfl)) ?_
  have h := k p e s m args below meth c H locs ls hA hH hL
  unfold Lv zlrem at h
  rw [Int64.ofInt_toInt] at h
  exact h
theorem Z_lneg {a : Int} (hd : decode cc pc = .ok (.lneg, 1)) (k : Z G R own nm cc nL ret Φ kc ks (pc + 1) lv (Lv (-a) :: st) es) : Z G R own nm cc nL ret Φ kc ks pc lv (Lv a :: st) es := by
  intro p e s m args below meth c H locs ls hA hH hL
  obtain ⟨hx, hb, hr, hml, hown, hw, hK, hS, hlk, hnm, hB, hAr⟩ := id hA
  refine lv_lneg hx hb hd ?_
  have h := k p e s m args below meth c H locs ls hA hH hL
  unfold Lv at h
  rw [Int64.ofInt_neg] at h
  exact h
theorem Z_lshl {a b : Int} (hd : decode cc pc = .ok (.lshl, 1)) (k : Z G R own nm cc nL ret Φ kc ks (pc + 1) lv (Lv (zlshl a b) :: st) es) : Z G R own nm cc nL ret Φ kc ks pc lv (Iv b :: Lv a :: st) es := by
  intro p e s m args below meth c H locs ls hA hH hL
  obtain ⟨hx, hb, hr, hml, hown, hw, hK, hS, hlk, hnm, hB, hAr⟩ := id hA
  refine lv_lshl hx hb hd rfl ?_
  have h := k p e s m args below meth c H locs ls hA hH hL
  unfold Lv zlshl at h
  rw [Int64.ofInt_toInt] at h
  exact h
theorem Z_lushr {a b : Int} (hd : decode cc pc = .ok (.lushr, 1)) (k : Z G R own nm cc nL ret Φ kc ks (pc + 1) lv (Lv (zlushr a b) :: st) es) : Z G R own nm cc nL ret Φ kc ks pc lv (Iv b :: Lv a :: st) es := by
  intro p e s m args below meth c H locs ls hA hH hL
  obtain ⟨hx, hb, hr, hml, hown, hw, hK, hS, hlk, hnm, hB, hAr⟩ := id hA
  refine lv_lushr hx hb hd rfl ?_
  have h := k p e s m args below meth c H locs ls hA hH hL
  unfold Lv zlushr at h
  rw [Int64.ofInt_toInt] at h
  exact h
theorem Z_i2l {a : Int} (hd : decode cc pc = .ok (.i2l, 1)) (k : Z G R own nm cc nL ret Φ kc ks (pc + 1) lv (Lv (wr a) :: st) es) : Z G R own nm cc nL ret Φ kc ks pc lv (Iv a :: st) es := by
  intro p e s m args below meth c H locs ls hA hH hL
  obtain ⟨hx, hb, hr, hml, hown, hw, hK, hS, hlk, hnm, hB, hAr⟩ := id hA
  exact lv_i2l hx hb hd (wl_i2l a) (k p e s m args below meth c H locs ls hA hH hL)
theorem Z_l2i {a : Int} (hd : decode cc pc = .ok (.l2i, 1)) (k : Z G R own nm cc nL ret Φ kc ks (pc + 1) lv (Iv (zl2i a) :: st) es) : Z G R own nm cc nL ret Φ kc ks pc lv (Lv a :: st) es := by
  intro p e s m args below meth c H locs ls hA hH hL
  obtain ⟨hx, hb, hr, hml, hown, hw, hK, hS, hlk, hnm, hB, hAr⟩ := id hA
  refine lv_l2i hx hb hd rfl ?_
  have h := k p e s m args below meth c H locs ls hA hH hL
  unfold Iv zl2i at h
  rw [Int32.ofInt_toInt] at h
  exact h
theorem Z_i2b {a : Int} (hd : decode cc pc = .ok (.i2b, 1)) (k : Z G R own nm cc nL ret Φ kc ks (pc + 1) lv (Iv (zi2b a) :: st) es) : Z G R own nm cc nL ret Φ kc ks pc lv (Iv a :: st) es := by
  intro p e s m args below meth c H locs ls hA hH hL
  obtain ⟨hx, hb, hr, hml, hown, hw, hK, hS, hlk, hnm, hB, hAr⟩ := id hA
  refine lv_i2b hx hb hd rfl ?_
  have h := k p e s m args below meth c H locs ls hA hH hL
  unfold Iv zi2b at h
  rw [Int32.ofInt_toInt] at h
  exact h
theorem Z_i2s {a : Int} (hd : decode cc pc = .ok (.i2s, 1)) (k : Z G R own nm cc nL ret Φ kc ks (pc + 1) lv (Iv (zi2s a) :: st) es) : Z G R own nm cc nL ret Φ kc ks pc lv (Iv a :: st) es := by
  intro p e s m args below meth c H locs ls hA hH hL
  obtain ⟨hx, hb, hr, hml, hown, hw, hK, hS, hlk, hnm, hB, hAr⟩ := id hA
  refine lv_i2s hx hb hd rfl ?_
  have h := k p e s m args below meth c H locs ls hA hH hL
  unfold Iv zi2s at h
  rw [Int32.ofInt_toInt] at h
  exact h
theorem Z_lcmp {a b : Int} (hd : decode cc pc = .ok (.lcmp, 1)) (k : Z G R own nm cc nL ret Φ kc ks (pc + 1) lv (Iv (zlcmp a b) :: st) es) : Z G R own nm cc nL ret Φ kc ks pc lv (Lv b :: Lv a :: st) es := by
  intro p e s m args below meth c H locs ls hA hH hL
  obtain ⟨hx, hb, hr, hml, hown, hw, hK, hS, hlk, hnm, hB, hAr⟩ := id hA
  refine W.lcmp hx hb hd ?_
  have h := k p e s m args below meth c H locs ls hA hH hL
  unfold Iv zlcmp at h
  rw [Int32.ofInt_toInt] at h
  exact h
theorem Z_dup {v : Value} (hd : decode cc pc = .ok (.dup, 1)) (hv : v.category = 1) (k : Z G R own nm cc nL ret Φ kc ks (pc + 1) lv (v :: v :: st) es) : Z G R own nm cc nL ret Φ kc ks pc lv (v :: st) es := by
  intro p e s m args below meth c H locs ls hA hH hL
  obtain ⟨hx, hb, hr, hml, hown, hw, hK, hS, hlk, hnm, hB, hAr⟩ := id hA
  exact lv_dup hx hb hd hv (k p e s m args below meth c H locs ls hA hH hL)
theorem Z_pop {v : Value} (hd : decode cc pc = .ok (.pop, 1)) (hv : v.category = 1) (k : Z G R own nm cc nL ret Φ kc ks (pc + 1) lv (st) es) : Z G R own nm cc nL ret Φ kc ks pc lv (v :: st) es := by
  intro p e s m args below meth c H locs ls hA hH hL
  obtain ⟨hx, hb, hr, hml, hown, hw, hK, hS, hlk, hnm, hB, hAr⟩ := id hA
  exact lv_pop hx hb hd hv (k p e s m args below meth c H locs ls hA hH hL)
theorem Z_dup2 {v u : Value} (hd : decode cc pc = .ok (.dup2, 1)) (hv : v.category = 1) (hu : u.category = 1) (k : Z G R own nm cc nL ret Φ kc ks (pc + 1) lv (v :: u :: v :: u :: st) es) : Z G R own nm cc nL ret Φ kc ks pc lv (v :: u :: st) es := by
  intro p e s m args below meth c H locs ls hA hH hL
  obtain ⟨hx, hb, hr, hml, hown, hw, hK, hS, hlk, hnm, hB, hAr⟩ := id hA
  exact lv_dup2_11 hx hb hd hv hu (k p e s m args below meth c H locs ls hA hH hL)
theorem zi_eq {a b : Int} : (Int32.ofInt a = Int32.ofInt b) ↔ wr a = wr b := Int32.toInt_inj.symm
theorem zi_lt {a b : Int} : (Int32.ofInt a < Int32.ofInt b) ↔ wr a < wr b := Int32.lt_iff_toInt_lt
theorem zi_le {a b : Int} : (Int32.ofInt a ≤ Int32.ofInt b) ↔ wr a ≤ wr b := Int32.le_iff_toInt_le
theorem zi_eq0 {a : Int} : (Int32.ofInt a = 0) ↔ wr a = 0 := by rw [← Int32.toInt_inj]; exact Iff.rfl
theorem zi_lt0 {a : Int} : (Int32.ofInt a < 0) ↔ wr a < 0 := Int32.lt_iff_toInt_lt
theorem zi_le0 {a : Int} : (Int32.ofInt a ≤ 0) ↔ wr a ≤ 0 := Int32.le_iff_toInt_le
theorem zi_0lt {a : Int} : (0 < Int32.ofInt a) ↔ 0 < wr a := Int32.lt_iff_toInt_lt
theorem zi_0le {a : Int} : (0 ≤ Int32.ofInt a) ↔ 0 ≤ wr a := Int32.le_iff_toInt_le
theorem Z_icmp_eq {a b : Int} {off : Int} {tgt : Nat} (hd : decode cc pc = .ok (.if_icmp .eq off, 3)) (ht : (pc : Int) + off = (tgt : Int)) (kt : wr a = wr b → Z G R own nm cc nL ret Φ kc ks tgt lv st es) (kf : ¬ (wr a = wr b) → Z G R own nm cc nL ret Φ kc ks (pc + 3) lv st es) : Z G R own nm cc nL ret Φ kc ks pc lv (Iv b :: Iv a :: st) es := by
  intro p e s m args below meth c H locs ls hA hH hL
  obtain ⟨hx, hb, hr, hml, hown, hw, hK, hS, hlk, hnm, hB, hAr⟩ := id hA
  exact lv_icmp_eq hx hb hd ht (fun q => kt ((zi_eq).mp q) p e s m args below meth c H locs ls hA hH hL) (fun q => kf (fun z => q ((zi_eq).mpr z)) p e s m args below meth c H locs ls hA hH hL)
theorem Z_if_eq {a : Int} {off : Int} {tgt : Nat} (hd : decode cc pc = .ok (.ifCond .eq off, 3)) (ht : (pc : Int) + off = (tgt : Int)) (kt : wr a = 0 → Z G R own nm cc nL ret Φ kc ks tgt lv st es) (kf : ¬ (wr a = 0) → Z G R own nm cc nL ret Φ kc ks (pc + 3) lv st es) : Z G R own nm cc nL ret Φ kc ks pc lv (Iv a :: st) es := by
  intro p e s m args below meth c H locs ls hA hH hL
  obtain ⟨hx, hb, hr, hml, hown, hw, hK, hS, hlk, hnm, hB, hAr⟩ := id hA
  exact lv_if_eq hx hb hd ht (fun q => kt ((zi_eq0).mp q) p e s m args below meth c H locs ls hA hH hL) (fun q => kf (fun z => q ((zi_eq0).mpr z)) p e s m args below meth c H locs ls hA hH hL)
theorem Z_icmp_ne {a b : Int} {off : Int} {tgt : Nat} (hd : decode cc pc = .ok (.if_icmp .ne off, 3)) (ht : (pc : Int) + off = (tgt : Int)) (kt : ¬ wr a = wr b → Z G R own nm cc nL ret Φ kc ks tgt lv st es) (kf : wr a = wr b → Z G R own nm cc nL ret Φ kc ks (pc + 3) lv st es) : Z G R own nm cc nL ret Φ kc ks pc lv (Iv b :: Iv a :: st) es := by
  intro p e s m args below meth c H locs ls hA hH hL
  obtain ⟨hx, hb, hr, hml, hown, hw, hK, hS, hlk, hnm, hB, hAr⟩ := id hA
  exact lv_icmp_ne hx hb hd ht (fun q => kt ((not_congr zi_eq).mp q) p e s m args below meth c H locs ls hA hH hL) (fun q => kf ((zi_eq).mp q) p e s m args below meth c H locs ls hA hH hL)
theorem Z_if_ne {a : Int} {off : Int} {tgt : Nat} (hd : decode cc pc = .ok (.ifCond .ne off, 3)) (ht : (pc : Int) + off = (tgt : Int)) (kt : ¬ wr a = 0 → Z G R own nm cc nL ret Φ kc ks tgt lv st es) (kf : wr a = 0 → Z G R own nm cc nL ret Φ kc ks (pc + 3) lv st es) : Z G R own nm cc nL ret Φ kc ks pc lv (Iv a :: st) es := by
  intro p e s m args below meth c H locs ls hA hH hL
  obtain ⟨hx, hb, hr, hml, hown, hw, hK, hS, hlk, hnm, hB, hAr⟩ := id hA
  exact lv_if_ne hx hb hd ht (fun q => kt ((not_congr zi_eq0).mp q) p e s m args below meth c H locs ls hA hH hL) (fun q => kf ((zi_eq0).mp q) p e s m args below meth c H locs ls hA hH hL)
theorem Z_icmp_lt {a b : Int} {off : Int} {tgt : Nat} (hd : decode cc pc = .ok (.if_icmp .lt off, 3)) (ht : (pc : Int) + off = (tgt : Int)) (kt : wr a < wr b → Z G R own nm cc nL ret Φ kc ks tgt lv st es) (kf : ¬ (wr a < wr b) → Z G R own nm cc nL ret Φ kc ks (pc + 3) lv st es) : Z G R own nm cc nL ret Φ kc ks pc lv (Iv b :: Iv a :: st) es := by
  intro p e s m args below meth c H locs ls hA hH hL
  obtain ⟨hx, hb, hr, hml, hown, hw, hK, hS, hlk, hnm, hB, hAr⟩ := id hA
  exact lv_icmp_lt hx hb hd ht (fun q => kt ((zi_lt).mp q) p e s m args below meth c H locs ls hA hH hL) (fun q => kf (fun z => q ((zi_lt).mpr z)) p e s m args below meth c H locs ls hA hH hL)
theorem Z_if_lt {a : Int} {off : Int} {tgt : Nat} (hd : decode cc pc = .ok (.ifCond .lt off, 3)) (ht : (pc : Int) + off = (tgt : Int)) (kt : wr a < 0 → Z G R own nm cc nL ret Φ kc ks tgt lv st es) (kf : ¬ (wr a < 0) → Z G R own nm cc nL ret Φ kc ks (pc + 3) lv st es) : Z G R own nm cc nL ret Φ kc ks pc lv (Iv a :: st) es := by
  intro p e s m args below meth c H locs ls hA hH hL
  obtain ⟨hx, hb, hr, hml, hown, hw, hK, hS, hlk, hnm, hB, hAr⟩ := id hA
  exact lv_if_lt hx hb hd ht (fun q => kt ((zi_lt0).mp q) p e s m args below meth c H locs ls hA hH hL) (fun q => kf (fun z => q ((zi_lt0).mpr z)) p e s m args below meth c H locs ls hA hH hL)
theorem Z_icmp_ge {a b : Int} {off : Int} {tgt : Nat} (hd : decode cc pc = .ok (.if_icmp .ge off, 3)) (ht : (pc : Int) + off = (tgt : Int)) (kt : wr b ≤ wr a → Z G R own nm cc nL ret Φ kc ks tgt lv st es) (kf : ¬ (wr b ≤ wr a) → Z G R own nm cc nL ret Φ kc ks (pc + 3) lv st es) : Z G R own nm cc nL ret Φ kc ks pc lv (Iv b :: Iv a :: st) es := by
  intro p e s m args below meth c H locs ls hA hH hL
  obtain ⟨hx, hb, hr, hml, hown, hw, hK, hS, hlk, hnm, hB, hAr⟩ := id hA
  exact lv_icmp_ge hx hb hd ht (fun q => kt ((zi_le).mp q) p e s m args below meth c H locs ls hA hH hL) (fun q => kf (fun z => q ((zi_le).mpr z)) p e s m args below meth c H locs ls hA hH hL)
theorem Z_if_ge {a : Int} {off : Int} {tgt : Nat} (hd : decode cc pc = .ok (.ifCond .ge off, 3)) (ht : (pc : Int) + off = (tgt : Int)) (kt : 0 ≤ wr a → Z G R own nm cc nL ret Φ kc ks tgt lv st es) (kf : ¬ (0 ≤ wr a) → Z G R own nm cc nL ret Φ kc ks (pc + 3) lv st es) : Z G R own nm cc nL ret Φ kc ks pc lv (Iv a :: st) es := by
  intro p e s m args below meth c H locs ls hA hH hL
  obtain ⟨hx, hb, hr, hml, hown, hw, hK, hS, hlk, hnm, hB, hAr⟩ := id hA
  exact lv_if_ge hx hb hd ht (fun q => kt ((zi_0le).mp q) p e s m args below meth c H locs ls hA hH hL) (fun q => kf (fun z => q ((zi_0le).mpr z)) p e s m args below meth c H locs ls hA hH hL)
theorem Z_icmp_gt {a b : Int} {off : Int} {tgt : Nat} (hd : decode cc pc = .ok (.if_icmp .gt off, 3)) (ht : (pc : Int) + off = (tgt : Int)) (kt : wr b < wr a → Z G R own nm cc nL ret Φ kc ks tgt lv st es) (kf : ¬ (wr b < wr a) → Z G R own nm cc nL ret Φ kc ks (pc + 3) lv st es) : Z G R own nm cc nL ret Φ kc ks pc lv (Iv b :: Iv a :: st) es := by
  intro p e s m args below meth c H locs ls hA hH hL
  obtain ⟨hx, hb, hr, hml, hown, hw, hK, hS, hlk, hnm, hB, hAr⟩ := id hA
  exact lv_icmp_gt hx hb hd ht (fun q => kt ((zi_lt).mp q) p e s m args below meth c H locs ls hA hH hL) (fun q => kf (fun z => q ((zi_lt).mpr z)) p e s m args below meth c H locs ls hA hH hL)
theorem Z_if_gt {a : Int} {off : Int} {tgt : Nat} (hd : decode cc pc = .ok (.ifCond .gt off, 3)) (ht : (pc : Int) + off = (tgt : Int)) (kt : 0 < wr a → Z G R own nm cc nL ret Φ kc ks tgt lv st es) (kf : ¬ (0 < wr a) → Z G R own nm cc nL ret Φ kc ks (pc + 3) lv st es) : Z G R own nm cc nL ret Φ kc ks pc lv (Iv a :: st) es := by
  intro p e s m args below meth c H locs ls hA hH hL
  obtain ⟨hx, hb, hr, hml, hown, hw, hK, hS, hlk, hnm, hB, hAr⟩ := id hA
  exact lv_if_gt hx hb hd ht (fun q => kt ((zi_0lt).mp q) p e s m args below meth c H locs ls hA hH hL) (fun q => kf (fun z => q ((zi_0lt).mpr z)) p e s m args below meth c H locs ls hA hH hL)
theorem Z_icmp_le {a b : Int} {off : Int} {tgt : Nat} (hd : decode cc pc = .ok (.if_icmp .le off, 3)) (ht : (pc : Int) + off = (tgt : Int)) (kt : wr a ≤ wr b → Z G R own nm cc nL ret Φ kc ks tgt lv st es) (kf : ¬ (wr a ≤ wr b) → Z G R own nm cc nL ret Φ kc ks (pc + 3) lv st es) : Z G R own nm cc nL ret Φ kc ks pc lv (Iv b :: Iv a :: st) es := by
  intro p e s m args below meth c H locs ls hA hH hL
  obtain ⟨hx, hb, hr, hml, hown, hw, hK, hS, hlk, hnm, hB, hAr⟩ := id hA
  exact lv_icmp_le hx hb hd ht (fun q => kt ((zi_le).mp q) p e s m args below meth c H locs ls hA hH hL) (fun q => kf (fun z => q ((zi_le).mpr z)) p e s m args below meth c H locs ls hA hH hL)
theorem Z_if_le {a : Int} {off : Int} {tgt : Nat} (hd : decode cc pc = .ok (.ifCond .le off, 3)) (ht : (pc : Int) + off = (tgt : Int)) (kt : wr a ≤ 0 → Z G R own nm cc nL ret Φ kc ks tgt lv st es) (kf : ¬ (wr a ≤ 0) → Z G R own nm cc nL ret Φ kc ks (pc + 3) lv st es) : Z G R own nm cc nL ret Φ kc ks pc lv (Iv a :: st) es := by
  intro p e s m args below meth c H locs ls hA hH hL
  obtain ⟨hx, hb, hr, hml, hown, hw, hK, hS, hlk, hnm, hB, hAr⟩ := id hA
  exact lv_if_le hx hb hd ht (fun q => kt ((zi_le0).mp q) p e s m args below meth c H locs ls hA hH hL) (fun q => kf (fun z => q ((zi_le0).mpr z)) p e s m args below meth c H locs ls hA hH hL)
theorem Z_goto {off : Int} {tgt : Nat} (hd : decode cc pc = .ok (.goto off, 3)) (ht : (pc : Int) + off = (tgt : Int)) (k : Z G R own nm cc nL ret Φ kc ks tgt lv st es) : Z G R own nm cc nL ret Φ kc ks pc lv st es := by
  intro p e s m args below meth c H locs ls hA hH hL
  obtain ⟨hx, hb, hr, hml, hown, hw, hK, hS, hlk, hnm, hB, hAr⟩ := id hA
  exact lv_goto hx hb hd ht (k p e s m args below meth c H locs ls hA hH hL)
theorem Z_tableOut {a dflt lo hi : Int} {offs : Array Int} {len tgt : Nat} (hd : decode cc pc = .ok (.tableswitch dflt lo hi offs, len)) (h : wr a < lo ∨ hi < wr a) (ht : (pc : Int) + dflt = (tgt : Int)) (k : Z G R own nm cc nL ret Φ kc ks tgt lv st es) : Z G R own nm cc nL ret Φ kc ks pc lv (Iv a :: st) es := by
  intro p e s m args below meth c H locs ls hA hH hL
  obtain ⟨hx, hb, hr, hml, hown, hw, hK, hS, hlk, hnm, hB, hAr⟩ := id hA
  exact lv_tableOut hx hb hd h ht (k p e s m args below meth c H locs ls hA hH hL)
theorem Z_tableIn {a dflt lo hi off : Int} {offs : Array Int} {len tgt : Nat} (v : Int) (hd : decode cc pc = .ok (.tableswitch dflt lo hi offs, len)) (hv : wr a = v) (h1 : ¬ v < lo) (h2 : ¬ hi < v) (ho : offs[(v - lo).toNat]? = some off) (ht : (pc : Int) + off = (tgt : Int)) (k : Z G R own nm cc nL ret Φ kc ks tgt lv st es) : Z G R own nm cc nL ret Φ kc ks pc lv (Iv a :: st) es := by
  intro p e s m args below meth c H locs ls hA hH hL
  obtain ⟨hx, hb, hr, hml, hown, hw, hK, hS, hlk, hnm, hB, hAr⟩ := id hA
  subst hv
  exact lv_tableIn hx hb hd h1 h2 ho ht (k p e s m args below meth c H locs ls hA hH hL)
theorem Z_lookup {a dflt off : Int} {ps : Array (Int × Int)} {len tgt : Nat} (hd : decode cc pc = .ok (.lookupswitch dflt ps, len)) (hp : (ps.toList.zip (ps.toList.drop 1)).all (fun (a, next) => a.1 < next.1) = true) (ho : Op.lookupswitch.offset ps.toList dflt (wr a) = off) (ht : (pc : Int) + off = (tgt : Int)) (k : Z G R own nm cc nL ret Φ kc ks tgt lv st es) : Z G R own nm cc nL ret Φ kc ks pc lv (Iv a :: st) es := by
  intro p e s m args below meth c H locs ls hA hH hL
  obtain ⟨hx, hb, hr, hml, hown, hw, hK, hS, hlk, hnm, hB, hAr⟩ := id hA
  exact lv_lookup hx hb hd hp ho ht (k p e s m args below meth c H locs ls hA hH hL)
end ZR
