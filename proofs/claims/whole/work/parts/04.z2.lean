/-! the cells: kind (0 ints, 1 longs, 2 booleans, 3 rows of ints, 4 rows of longs, 5 an object) and length (of an object: its class) -/
def zsh : List (Nat × Nat) := [(5, 7), (5, 6), (0, 20), (0, 20), (0, 20), (0, 20), (3, 5), (0, 7), (0, 7), (0, 7), (0, 7), (0, 7), (3, 5), (0, 7), (0, 7), (0, 7), (0, 7), (0, 7), (0, 20), (5, 1), (0, 8), (3, 4), (0, 8), (0, 8), (0, 8), (0, 8), (5, 2), (0, 8), (0, 8), (0, 8), (5, 0), (0, 30), (0, 30), (0, 30), (2, 30), (0, 8), (4, 8), (1, 4), (1, 4), (1, 4), (1, 4), (1, 4), (1, 4), (1, 4), (1, 4), (5, 3), (3, 5), (0, 5), (0, 5), (0, 5), (0, 5), (0, 5), (3, 5), (0, 5), (0, 5), (0, 5), (0, 5), (0, 5), (0, 5), (0, 5), (3, 36), (0, 5), (0, 5), (0, 5), (0, 5), (0, 5), (0, 5), (0, 5), (0, 5), (0, 5), (0, 5), (0, 5), (0, 5), (0, 5), (0, 5), (0, 5), (0, 5), (0, 5), (0, 5), (0, 5), (0, 5), (0, 5), (0, 5), (0, 5), (0, 5), (0, 5), (0, 5), (0, 5), (0, 5), (0, 5), (0, 5), (0, 5), (0, 5), (0, 5), (0, 5), (0, 5), (0, 5), (0, 36), (0, 6), (5, 4), (3, 5), (0, 5), (0, 5), (0, 5), (0, 5), (0, 5), (0, 5), (0, 5), (0, 5), (0, 5), (0, 5), (3, 6), (0, 32), (0, 32), (0, 32), (0, 32), (0, 32), (0, 32), (5, 5), (0, 4), (0, 4), (3, 4), (0, 60), (0, 60), (0, 60), (0, 60), (0, 8), (5, 8), (0, 20), (0, 20), (0, 20), (0, 20), (0, 20), (0, 8), (0, 8), (0, 8), (0, 8), (0, 4), (0, 4), (0, 240), (0, 8), (0, 30), (0, 30), (0, 8), (0, 8), (0, 25), (0, 25), (0, 25), (0, 5), (0, 5), (0, 5), (0, 5), (0, 5), (0, 5)]
def zft (n ci : Nat) : List Int := match ci with
  | 0 => [-1, -1, -1, -1, 31, 32, 33, 34, 35, 36]
  | 1 => [-1, 20, 21]
  | 2 => [19, 27, 28, 29]
  | 3 => [-1, -1, -1, -1, 46, 52, 58, 59, 60, 97, 98]
  | 4 => [-1, 100, 106, 107, 108, 109, 110, 111]
  | 5 => [119, 120, 121]
  | 6 => [-1, -1, -1, -1, 2, 3, 4, 5, 6, 12, 18, -1, -1]
  | 7 => [if 19 < n then 1 else -3, if 26 < n then 19 else -3, if 30 < n then 26 else -3, if 45 < n then 30 else -3, if 99 < n then 45 else -3, if 118 < n then 99 else -3, if 126 < n then 118 else -3, if 127 < n then 126 else -3, -1]
  | 8 => [-1, -1, -1, -1, -1, 128, 129, 130, -1, -1, 131, 132, -1, 133, 134, 135, 136, -1, -2, -2, 137, 138, 139, 140, -1, -1, 141, 142, 143, 144, -1, 145, 146, 147, 148, 149, 150, 151, -1, 152, 153]
  | _ => []
def zk (a : Int) : Nat := (zsh.getD a.toNat (9, 0)).1
def zn (a : Int) : Nat := (zsh.getD a.toNat (9, 0)).2
abbrev zM : Type := Int → Int → Int
def zu (μ : zM) (a i v : Int) : zM := fun a' i' => if a' = a ∧ i' = i then v else μ a' i'
theorem zu_same (μ : zM) (a i v : Int) : zu μ a i v a i = v := by simp [zu]
theorem zu_ne {μ : zM} {a i v a' i' : Int} (h : ¬ (a' = a ∧ i' = i)) : zu μ a i v a' i' = μ a' i' := by simp [zu, h]
def zfv (B : Nat) (f : Int → Int) (j : Nat) (t : Int) : Value := if t = -1 then Iv (f j) else if t = -2 then Lv (f j) else if t = -3 then .null else .ref (B + t.toNat)
def zfl (B n ci : Nat) (f : Int → Int) : List Value := (zft n ci).mapIdx (zfv B f)
def zcon (B : Nat) (C : Nat → ClassId) (n k : Nat) (f : Int → Int) : va_E :=
  if zk k = 0 then .inl (C 0, zn k, .inl (fun j => Int32.ofInt (f j)))
  else if zk k = 1 then .inl (C 1, zn k, .inr (.inl (fun j => Int64.ofInt (f j))))
  else if zk k = 2 then .inl (C 2, zn k, .inl (fun j => Int32.ofInt (f j)))
  else if zk k = 3 then .inl (C 3, zn k, .inr (.inr (.inr (.inr (fun j => if j < zn k then some (B + (k + 1 + j)) else none)))))
  else if zk k = 4 then .inl (C 4, zn k, .inr (.inr (.inr (.inr (fun j => if j < zn k then some (B + (k + 1 + j)) else none)))))
  else .inr (zn k, zfl B n (zn k) f)
def zE (G : zG) (n : Nat) (μ : zM) : List va_E := (List.range n).map (fun k => zcon (zB G) (zC G) n k (μ k))
theorem zE_len (G : zG) (n : Nat) (μ : zM) : (zE G n μ).length = n := by simp [zE]
theorem zE_get {G : zG} {n k : Nat} (μ : zM) (h : k < n) : (zE G n μ)[k]? = some (zcon (zB G) (zC G) n k (μ k)) := by
  unfold zE
  rw [List.getElem?_map, List.getElem?_range h]
  rfl
theorem zE_set {G : zG} {n k : Nat} {μ μ' : zM} {e : va_E} (h : k < n) (he : zcon (zB G) (zC G) n k (μ' k) = e) (ho : ∀ k' : Nat, k' ≠ k → μ' (k' : Int) = μ (k' : Int)) : (zE G n μ).set k e = zE G n μ' := by
  apply List.ext_getElem?
  intro i
  by_cases hi : i = k
  · subst hi
    rw [List.getElem?_set_self (by rw [zE_len]; exact h), zE_get μ' h, he]
  · rw [List.getElem?_set_ne (Ne.symm hi)]
    by_cases hl : i < n
    · rw [zE_get μ hl, zE_get μ' hl, ho i hi]
    · rw [List.getElem?_eq_none (by rw [zE_len]; omega), List.getElem?_eq_none (by rw [zE_len]; omega)]
theorem zu_cell_ne {μ : zM} {a i v : Int} {k' : Nat} (h : (k' : Int) ≠ a) : zu μ a i v (k' : Int) = μ (k' : Int) := by
  funext j; simp [zu, h]
theorem zu_cell {μ : zM} {a i v : Int} : zu μ a i v a = fun j => if j = i then v else μ a j := by
  funext j; simp [zu]
theorem zfl_get {B n ci : Nat} {f : Int → Int} {j : Nat} {t : Int} (h : (zft n ci)[j]? = some t) : (zfl B n ci f)[j]? = some (zfv B f j t) := by
  unfold zfl
  rw [List.getElem?_mapIdx, h]
  rfl
theorem zfl_set {B n ci : Nat} {f : Int → Int} {j : Nat} {t v : Int} {w : Value} (h : (zft n ci)[j]? = some t) (ht : t = -1 ∧ w = Iv v ∨ t = -2 ∧ w = Lv v) : (zfl B n ci f).set j w = zfl B n ci (fun i => if i = (j : Int) then v else f i) := by
  apply List.ext_getElem?
  intro i
  have hl : j < (zfl B n ci f).length := by
    unfold zfl; rw [List.length_mapIdx]; exact (List.getElem?_eq_some_iff.mp h).1
  by_cases hi : i = j
  · subst hi
    rw [List.getElem?_set_self hl, zfl_get h]
    rcases ht with ⟨rfl, rfl⟩ | ⟨rfl, rfl⟩ <;> simp [zfv]
  · rw [List.getElem?_set_ne (Ne.symm hi)]
    unfold zfl
    rw [List.getElem?_mapIdx, List.getElem?_mapIdx]
    cases hx : (zft n ci)[i]? with
    | none => rfl
    | some t' =>
      have : ¬ ((i : Int) = (j : Int)) := by omega
      simp [zfv, this]
/-! contracts -/
def zIn (G : zG) (es : List va_E) (U : State) (H : Heap) : Prop := (∀ w ∈ zT, va_Nw w U) ∧ va_K (zD G) vwCl (zty G) U ∧ zSt G U H ∧ H.size = zB G + es.length ∧ va_P (zD G) vwCl (zws (zB G) es) H ∧ zAr U
theorem zIn.warm {G : zG} {es : List va_E} {s U : State} {H : Heap} (hW : s.WarmedH U.vm) (h : zIn G es s H) : zIn G es U H := ⟨ztbl_warm hW h.1, va_K.moved hW.alike h.2.1, h.2.2.1.moved hW.alike, h.2.2.2.1, h.2.2.2.2.1, h.2.2.2.2.2.warm hW⟩
def zQ (G : zG) (Q : Option Value → List va_E → Prop) : Array Value → State → Outcome → State → Prop := fun _ st o t => ∃ (r : Option Value) (es : List va_E), o = .returned r ∧ Q r es ∧ t.heap.size = zB G + es.length ∧ va_P (zD G) vwCl (zws (zB G) es) t.heap ∧ va_F (zA G) st t
def zrm (d mc ms : Nat) : Room := { frames := d, cells := mc, slots := ms, locals := 40 * d }
def zCt (G : zG) (d mc ms : Nat) (y : MethodName) (cc : ByteArray) (nL : Nat) (ret : Option FieldType) (args : List Value) (es : List va_E) (Q : Option Value → List va_E → Prop) : Prop :=
  Met (zl G) y [.code y cc nL ret] (zrm d mc ms) (va_Pc args (fun U => zIn G es U U.heap)) (zQ G Q) mc ms (zA G)
def zPhe (G : zG) (mc ms : Nat) (Q : Option Value → List va_E → Prop) : zPhi := fun below args s => MQ below (zQ G Q) args s mc ms (zA G)
def zent : List Value → List (Option Value)
  | [] => []
  | v :: vs => if v.category = 2 then some v :: none :: zent vs else some v :: zent vs
theorem zent_mem : ∀ (vs : List Value) (i k : Nat) (v : Value), (zent vs)[i]? = some (some v) → (k + i, v) ∈ lv_args k vs
  | [], i, k, v, h => by simp [zent] at h
  | u :: us, i, k, v, h => by
    by_cases hc : u.category = 2
    · simp only [zent, hc, if_true] at h
      simp only [lv_args, hc, if_true]
      match i, h with
      | 0, h => simp at h; subst h; exact List.mem_cons_self
      | 1, h => simp at h
      | j + 2, h =>
        have := zent_mem us j (k + 2) v (by simpa using h)
        rw [show k + (j + 2) = k + 2 + j by omega]
        exact List.mem_cons_of_mem _ this
    · simp only [zent, hc, if_false] at h
      simp only [lv_args, hc, if_false]
      match i, h with
      | 0, h => simp at h; subst h; exact List.mem_cons_self
      | j + 1, h =>
        have := zent_mem us j (k + 1) v (by simpa using h)
        rw [show k + (j + 1) = k + 1 + j by omega]
        exact List.mem_cons_of_mem _ this
theorem zCt_of {G : zG} {d mc ms : Nat} {y : MethodName} {cc : ByteArray} {nL : Nat} {ret : Option FieldType} {args : List Value} {es : List va_E} {Q : Option Value → List va_E → Prop} {lv : List (Option Value)}
    (hy : plainName y.cls = true) (hlv : zent args ++ List.replicate (nL - (zent args).length) none = lv) (hn : (lg_sl args).length ≤ nL)
    (k : Z G (zrm d mc ms) y.cls y.name cc nL ret (zPhe G mc ms Q) 0 0 0 lv [] es) : zCt G d mc ms y cc nL ret args es Q := by
  refine Met.ofW (cc := cc) (maxL := nL) (ret := ret) hy rfl ?_
  intro p e s m argsA below meth c s₁ B hml hv
  obtain ⟨rfl, hw, hK, hS, hsz, hP, hAr⟩ := hv
  have hl := lv_entry args (n := nL) hn
  rw [lg_entry_eq]
  refine k p e s m args.toArray below meth c s.heap [] _ ⟨B.exec, B.bytes, B.returns, hml, findClass_of_methodNamed B.named, hw, hK, hS, B.notSynchronized, (name_of_methodNamed B.named B.method).1, by omega, hAr⟩ ⟨hsz, hP, va_S.rf⟩ ⟨hl.1, hl.2.1, fun i v hv => ?_⟩
  subst hlv
  rcases Nat.lt_or_ge i (zent args).length with q | q
  · rw [List.getElem?_append_left q] at hv
    have := zent_mem args i 0 v hv
    rw [Nat.zero_add] at this
    exact hl.2.2 (i, v) this
  · rw [List.getElem?_append_right q] at hv
    have := List.eq_of_mem_replicate (List.mem_of_getElem? hv)
    cases this
theorem zCt.mono {G : zG} {d mc ms : Nat} {y : MethodName} {cc : ByteArray} {nL : Nat} {ret : Option FieldType} {args : List Value} {es : List va_E} {Q Q' : Option Value → List va_E → Prop} (h : zCt G d mc ms y cc nL ret args es Q) (hq : ∀ r es', Q r es' → Q' r es') : zCt G d mc ms y cc nL ret args es Q' := by
  intro p e ha hc hk s m argsA below hf happ hP hK
  obtain ⟨k, o, h1, h2, h3, ⟨r, es', e1, e2, e3⟩, h5⟩ := h p e ha hc hk s m argsA below hf happ hP hK
  exact ⟨k, o, h1, h2, h3, ⟨r, es', e1, hq r es' e2, e3⟩, h5⟩

