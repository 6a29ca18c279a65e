/-! making objects and arrays -/
section Z6
variable {G : zG} {R : Room} {own nm : String} {cc : ByteArray} {nL : Nat} {ret : Option FieldType} {Φ : zPhi} {kc ks pc : Nat} {lv : List (Option Value)} {st : List Value} {es : List va_E}
theorem zgrown {s : State} {H H1 : Heap} {locs : List Loc} {e1 : va_E} (hH : zHp G es s H locs) (he : va_at (zD G) vwCl (zB G + es.length, e1) H1) (hz : H1.size = H.size + 1) (oq : ∀ q : Nat, q < H.size → H1[q]? = H[q]?) : zHp G (es ++ [e1]) s H1 locs := by
  refine ⟨by rw [hz, hH.1, List.length_append]; rfl, ?_, ?_, ?_, hH.2.2.2.2⟩
  · rw [← zws_app]
    refine va_P.app (hH.2.1.kept (fun k q hk => oq q.1 ((hH.2.1 k q hk).lt))) (fun k q hk => ?_)
    have hz : k < 1 := (List.getElem?_eq_some_iff.mp hk).1
    rw [show k = 0 by omega] at hk
    cases hk
    exact he
  · have := hH.2.2.1
    omega
  · intro q h1 h2
    rw [oq q (Nat.lt_of_lt_of_le h1 hH.2.2.1)]
    exact hH.2.2.2.1 q h1 h2
theorem Ze_new {ci N idx : Nat} {C : String} {T : u_T} {ty0 : Nat → FieldType} {fs : List Value} (hc : zCls ci C T N ty0) (hl : Cond.classLink own idx C ∈ zT) (hi : Cond.instantiable C N ∈ zT) (hini : Cond.initialized C ∈ zT) (hfs : ∀ j, j < N → defaultValue (ty0 j) = vp_V fs j) (hR : kc + 1 ≤ R.cells ∧ ks + N ≤ R.slots) (hd : decode cc pc = .ok (.new idx, 3))
    (k : Z G R own nm cc nL ret Φ (kc + 1) (ks + N) (pc + 3) lv (.ref (zB G + es.length) :: st) (es ++ [.inr (ci, fs)])) : Z G R own nm cc nL ret Φ kc ks pc lv st es := by
  intro p e s m args below meth c H locs ls hA hH hL
  obtain ⟨hx, hb, hr, hml, hown, hw, hK, hS, hlk, hnm, hB, hAr⟩ := id hA
  have hts := ztbl_use hw args
  have hKn := hK.1 ci _ hc.1
  refine W.newcK hx hb hown (hts _ hl) (hts _ hi) (hts _ hini) rfl hd hR.1 hR.2 hKn.2.1 hH.1 fun H1 kC hkC e1 z1 o1 => ?_
  refine k p e s m args below meth c H1 locs ls hA (zgrown hH ?_ (by rw [z1, hH.1]) (fun q hq => o1 q (by rw [← hH.1]; exact hq))) hL
  exact ⟨_, hc.1, (u_born ty0 hts hc.2.1 hKn hkC e1 hc.2.2.1).to hfs⟩
theorem Ze_newa {q N : Nat} {n : Int} {ty : FieldType} {atype : ArrayType} {e1 : vp_A} (hty : newarray.typeOf atype = ty) (hq : (zty G)[q]? = some (zC G q, ty)) (hw3 : ty ∈ [FieldType.int, .long, .boolean]) (he : ∀ cA : ClassId, vp_cell cA e1 = arrV cA N (fun _ => defaultValue ty)) (hn0 : ¬ Int32.ofInt n < 0) (hN : (Int32.ofInt n).toNatClampNeg = N) (hby : N * componentBytes ty ≤ 536870912) (hnm0 : ty.toString = ty.toString) (hR : kc + 1 ≤ R.cells ∧ ks + N ≤ R.slots) (hd : decode cc pc = .ok (.newarray atype, 2))
    (hra : ∀ (s : State) (cA : ClassId), va_RA s cA ty → s.vm.findClass ("[" ++ ty.toString) = some cA)
    (k : Z G R own nm cc nL ret Φ (kc + 1) (ks + N) (pc + 2) lv (.ref (zB G + es.length) :: st) (es ++ [.inl (zC G q, e1)])) : Z G R own nm cc nL ret Φ kc ks pc lv (Iv n :: st) es := by
  subst hty
  intro p e s m args below meth c H locs ls hA hH hL
  obtain ⟨hx, hb, hr, hml, hown, hw, hK, hS, hlk, hnm, hB, hAr⟩ := id hA
  have harr : (Cond.arrayClass (newarray.typeOf atype)).before args s = true := word_at (State.WarmedH.refl s) (Or.inr ⟨_, rfl⟩) (hAr.1 _ hw3)
  refine va_newaK hx hb harr rfl hd rfl hn0 hN hby hR.1 hR.2 hH.1 fun H1 cA e2 z1 o1 hAt hfn => ?_
  have hc := hra s _ (hK.2 q _ hq).2
  have : cA = zC G q := Option.some.inj (hfn.symm.trans hc)
  subst this
  refine k p e s m args below meth c H1 locs ls hA (zgrown hH ?_ (by rw [z1, hH.1]) (fun q hq => o1 q (by rw [← hH.1]; exact hq))) hL
  show H1[_]? = some (vp_cell _ _)
  rw [he]; exact e2
theorem zOv.word {ty : FieldType} {s : State} (h : zOv ty s) (args : Array Value) : (Cond.arrayOver (.array ty)).before args s = true := by
  obtain ⟨comp, c, k, h1, h2, h3, h4, h5⟩ := h
  unfold Cond.before Cond.holds
  simp only [Cond.value]
  rw [h1, Option.bind_some]
  refine (congrArg (fun o : Option Nat => (o.bind (fun c => (s.vm.classes[c]?).map fun (k : Class) => match k.kind with | .array _ t => decide (t = FieldType.array ty) && decide (s.vm.findClass ("[" ++ (FieldType.array ty).toString) = some c) | _ => false) == some true)) h2).trans ?_
  simp [h3, h4, h5]
theorem zouterI (c : ClassId) (N h0 : Nat) : ∀ i : Nat, Jvm.Free.Multi.outerC c N h0 i = arrV c N (fun j => va_rf (if j < i then some (h0 + 1 + j) else none))
  | 0 => by
    show ({ cls := c, slots := Array.replicate N .null, vm := .none } : Cell) = _
    rw [arrV_new]
    refine congrArg (arrV c N) (funext fun j => ?_)
    simp [va_rf]
  | i + 1 => by
    show (Jvm.Free.Multi.outerC c N h0 i).setSlot i (.ref (h0 + 1 + i)) = _
    rw [zouterI c N h0 i, arrV_store]
    refine congrArg (arrV c N) (funext fun j => ?_)
    by_cases e : j = i
    · subst e
      simp [updV, va_rf]
    · by_cases h : j < i
      · simp [updV, e, h, Nat.lt_succ_of_lt h]
      · simp [updV, e, h, show ¬ j < i + 1 by omega]
theorem zouter (c : ClassId) (N h0 : Nat) : Jvm.Free.Multi.outerC c N h0 N = vp_cell c (N, .inr (.inr (.inr (.inr (fun j => if j < N then some (h0 + 1 + j) else none))))) := zouterI c N h0 N
/-- rows of a number: the outer row, then its rows -/
theorem Ze_multi {q q1 N M idx : Nat} {a b : Int} {ty : FieldType} {z : vp_A} (hq : (zty G)[q]? = some (zC G q, .array ty)) (hq1 : (zty G)[q1]? = some (zC G q1, ty)) (hw3 : ty ∈ [FieldType.int, .long, .boolean]) (hov : ∀ s : State, zAr s → zOv ty s) (hra : ∀ (s : State) (cA : ClassId), va_RA s cA ty → s.vm.findClass ("[" ++ ty.toString) = some cA) (hcl : Cond.classLink own idx ("[" ++ (FieldType.array ty).toString) ∈ zT)
    (hz : ∀ c : ClassId, Jvm.Free.Multi.innerC c M (defaultValue ty) = vp_cell c z) (ha0 : ¬ Int32.ofInt a < 0) (hb0 : ¬ Int32.ofInt b < 0) (haN : (Int32.ofInt a).toNatClampNeg = N) (hbM : (Int32.ofInt b).toNatClampNeg = M) (hb1 : N * 4 ≤ 536870912) (hb2 : M * componentBytes ty ≤ 536870912) (hb3 : M ≤ 536870912) (hdf : fits ty (defaultValue ty) = true) (hdd : (defaultValue ty).isDefault = true)
    (hR : kc + (1 + N) ≤ R.cells ∧ ks + (N + N * M) ≤ R.slots) (hd : decode cc pc = .ok (.multianewarray idx 2, 4))
    (k : Z G R own nm cc nL ret Φ (kc + 1 + N) (ks + N + N * M) (pc + 4) lv (.ref (zB G + es.length) :: st) (es ++ .inl (zC G q, N, .inr (.inr (.inr (.inr (fun j => if j < N then some (zB G + (es.length + 1 + j)) else none))))) :: List.replicate N (.inl (zC G q1, z)))) : Z G R own nm cc nL ret Φ kc ks pc lv (Iv b :: Iv a :: st) es := by
  intro p e s m args below meth c H locs ls hA hH hL
  obtain ⟨hx, hb, hr, hml, hown, hw, hK, hS, hlk, hnm, hB, hAr⟩ := id hA
  have hts := ztbl_use hw args
  have harr : (Cond.arrayClass ty).before args s = true := word_at (State.WarmedH.refl s) (Or.inr ⟨_, rfl⟩) (hAr.1 _ hw3)
  subst haN; subst hbM
  intro T hT X
  obtain ⟨vm₁, cA, comp, -, fA, fC, hO, -, X', step⟩ := X.multianewarray2F hx hown (hts _ hcl) ((hov s hAr).word args) harr (g := F0 m pc ls (Iv b :: Iv a :: st)) rfl (by rw [hb]; exact hd) rfl ha0 hb0 hb1 hb2 hb3 hdf hdd hR.1 hR.2
  have ecA : cA = zC G q := Option.some.inj (fA.symm.trans (hK.2 q _ hq).2)
  have eco : comp = zC G q1 := Option.some.inj (fC.symm.trans (hra s _ (hK.2 q1 _ hq1).2))
  subst ecA; subst eco
  generalize hF : Jvm.Free.Multi.fill (T.setVm vm₁) (zC G q) (zC G q1) (Int32.ofInt a).toNatClampNeg (Int32.ofInt b).toNatClampNeg (defaultValue ty) (Int32.ofInt a).toNatClampNeg = F at X' step
  have hTh : (T.setVm vm₁).heap = H := hT
  obtain ⟨f1, f2, -, -⟩ := Jvm.Free.Multi.fill_facts (T.setVm vm₁) (zC G q) (zC G q1) (Int32.ofInt a).toNatClampNeg (Int32.ofInt b).toNatClampNeg (defaultValue ty) (Int32.ofInt a).toNatClampNeg
  rw [hF, hTh] at f1 f2
  have hold : ∀ x : Nat, x < H.size → F.heap[x]? = H[x]? := fun x hx => by
    have := Jvm.Free.Multi.fill_old (T.setVm vm₁) (zC G q) (zC G q1) (Int32.ofInt a).toNatClampNeg (Int32.ofInt b).toNatClampNeg (defaultValue ty) (a := x) (by rw [hTh]; exact hx) (Int32.ofInt a).toNatClampNeg
    rw [hF, hTh] at this
    exact this
  have hrow : ∀ j : Nat, j < (Int32.ofInt a).toNatClampNeg → F.heap[H.size + 1 + j]? = some (vp_cell (zC G q1) z) := fun j hj => by
    have := Jvm.Free.Multi.fill_inner (T.setVm vm₁) (zC G q) (zC G q1) (Int32.ofInt a).toNatClampNeg (Int32.ofInt b).toNatClampNeg (defaultValue ty) (Int32.ofInt a).toNatClampNeg j hj
    rw [hF, hTh, hz] at this
    exact this
  rw [zouter] at f2
  have hsz := hH.1
  have hH2 : zHp G (es ++ .inl (zC G q, (Int32.ofInt a).toNatClampNeg, .inr (.inr (.inr (.inr (fun j => if j < (Int32.ofInt a).toNatClampNeg then some (zB G + (es.length + 1 + j)) else none))))) :: List.replicate (Int32.ofInt a).toNatClampNeg (.inl (zC G q1, z))) s F.heap locs := by
    refine ⟨by rw [f1, hsz, List.length_append, List.length_cons, List.length_replicate]; omega, fun k0 x hx0 => ?_, by rw [f1]; have := hH.2.2.1; omega, fun x h1 h2 => ?_, hH.2.2.2.2⟩
    · obtain ⟨g1, g2⟩ := zws_inv hx0
      obtain ⟨xa, xe⟩ := x
      dsimp only at g1 g2
      subst g1
      by_cases hk : k0 < es.length
      · rw [List.getElem?_append_left hk] at g2
        exact (hH.2.1 k0 _ (zws_get g2)).kept (hold _ (by show zB G + k0 < H.size; omega))
      · rw [List.getElem?_append_right (by omega)] at g2
        by_cases hk2 : k0 = es.length
        · subst hk2
          rw [Nat.sub_self, List.getElem?_cons_zero] at g2
          cases g2
          show F.heap[zB G + es.length]? = some (vp_cell _ _)
          rw [← hsz, f2, hsz]
          have ef : (fun j : Nat => if j < (Int32.ofInt a).toNatClampNeg then some (zB G + es.length + 1 + j) else none) = (fun j : Nat => if j < (Int32.ofInt a).toNatClampNeg then some (zB G + (es.length + 1 + j)) else none) := by
            funext j
            rw [show zB G + es.length + 1 + j = zB G + (es.length + 1 + j) by omega]
          rw [ef]
        · obtain ⟨k1, rfl⟩ : ∃ k1, k0 = es.length + (k1 + 1) := ⟨k0 - es.length - 1, by omega⟩
          rw [Nat.add_sub_cancel_left, List.getElem?_cons_succ] at g2
          have hk1 : k1 < (Int32.ofInt a).toNatClampNeg := by
            have := (List.getElem?_eq_some_iff.mp g2).1
            rwa [List.length_replicate] at this
          rw [List.getElem?_replicate, if_pos hk1] at g2
          cases g2
          show F.heap[zB G + (es.length + (k1 + 1))]? = some (vp_cell _ _)
          rw [show zB G + (es.length + (k1 + 1)) = H.size + 1 + k1 by omega]
          exact hrow k1 hk1
    · rw [hold x (Nat.lt_of_lt_of_le h1 hH.2.2.1)]
      exact hH.2.2.2.1 x h1 h2
  obtain ⟨t, a1, b1⟩ := k p e s m args below meth c F.heap locs ls hA hH2 hL F rfl X'
  refine ⟨t, step t ?_, b1⟩
  have e5 : T.heap.size = zB G + es.length := by rw [hT]; exact hsz
  rw [e5]
  exact a1
end Z6
