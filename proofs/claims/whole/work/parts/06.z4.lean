section ZC
variable {G : zG} {R : Room} {own nm : String} {cc : ByteArray} {nL : Nat} {ret : Option FieldType} {Φ : zPhi} {kc ks pc : Nat} {lv : List (Option Value)} {st : List Value} {es : List va_E} {n : Nat} {μ : zM}
/-- behind a call -/
theorem zrun {p : Program} {e : Env} {s : State} {m : MethodId} {args : Array Value} {below : List Frame} {meth : Method} {c : Code} {H : Heap} {locs : List Loc} {ls : Array Slot} {mc ms : Nat} {st0 rest : List Value} {Q : Option Value → List va_E → Prop} {a : Array Value}
    (hr : va_Run p (zl G) e R s m args below meth c H locs kc ks mc ms (F0 m pc ls st0) rest (zQ G Q a) (zA G)) (hA : zAt G own nm cc nL ret p s m meth c) (hH : zHp G es s H locs) (hL : zLo ls nL lv)
    (k : ∀ r es', Q r es' → Z G R own nm cc nL ret Φ (kc + mc) (ks + ms) (pc + 3) lv (r.toList ++ rest) es') : W p (zl G) e R s m args below meth c H locs kc ks (Φ below args s) (F0 m pc ls st0) := by
  intro T hT X
  obtain ⟨v, st₀, t, T', L, h0, X', hLl, e1, e2, ⟨r, es', hv, hq, hsz, hP, hF⟩, go⟩ := hr T hT X
  cases hv
  have hS2 : va_S (zA G) s.heap T'.heap (locs ++ L) := by
    refine ⟨?_, fun q h1 h2 => ?_, fun l hl => ?_⟩
    · have := hH.2.2.1
      have h3 := hF.1
      rw [h0] at h3
      rw [e1]; omega
    · have h3 := hF.2 q (by rw [h0]; exact Nat.lt_of_lt_of_le h1 hH.2.2.1) h2
      rw [e1, h3, h0]
      exact hH.2.2.2.1 q h1 h2
    · rcases List.mem_append.mp hl with q | q
      · exact hH.2.2.2.2 l q
      · exact hLl l q
  obtain ⟨t2, a1, b1⟩ := k v es' hq p e s m args below meth c T'.heap (locs ++ L) ls hA ⟨by rw [e1]; exact hsz, by rw [e1]; exact hP, hS2⟩ hL T' rfl X'
  exact ⟨t2, go _ a1, b1⟩
theorem zpre {p : Program} {s : State} {m : MethodId} {meth : Method} {c : Code} {H : Heap} {locs : List Loc} (hA : zAt G own nm cc nL ret p s m meth c) (hH : zHp G es s H locs) (av : List Value) : FrameBlind (va_Pc av (fun U => zIn G es U U.heap)) ∧ ∀ U : State, U.heap = H → s.WarmedH U.vm → va_Pc av (fun U => zIn G es U U.heap) av.toArray U := by
  obtain ⟨hx, hb, hr, hml, hown, hw, hK, hS, hlk, hnm, hB, hAr⟩ := id hA
  refine ⟨fun a U g mk q => ?_, fun U hU hW => ?_⟩
  · obtain ⟨q0, q1, q2, q3, q4, q5, q6⟩ := q
    have al : U.vm.Alike (U.calling g mk a).vm := Vm.Alike.refl U.vm
    exact ⟨q0, fun w hw => va_Nw.same (ztbl_on hw) (rfl : U.vm = (U.calling g mk a).vm) (q1 w hw), va_K.moved al q2, q3.moved al, q4, q5, ⟨fun ty ht => q6.1 ty ht, q6.2.1.moved al, q6.2.2.moved al⟩⟩
  · refine ⟨rfl, ?_⟩
    show zIn G es U U.heap
    rw [hU]
    exact zIn.warm hW ⟨hw, hK, hS.kept hH.2.2.1 (fun q h1 h2 => hH.2.2.2.1 q h1 h2), hH.1, hH.2.1, hAr⟩
/-! what a callee is, what a link is -/
def zMd (y : MethodName) (cb : ByteArray) (nb : Nat) (rb : Option FieldType) (np : Nat) : Prop := Cond.code y cb nb rb ∈ zT ∧ Cond.initialized y.cls ∈ zT ∧ goodWord (Cond.code y cb nb rb) = true ∧ (y.cls ≠ "java/lang/invoke/MethodHandle" ∧ y.cls ≠ "java/lang/invoke/VarHandle" ∧ (parseMethodDescriptor y.desc).map (fun d => d.parameters.length) = some np)
def zMv (y : MethodName) : Prop := Cond.instanceMethod y ∈ zT ∧ Cond.selects y.cls y y ∈ zT
def zLk (own : String) (idx : Nat) (y : MethodName) : Prop := Cond.methodLink own idx y ∈ zT ∨ ∃ host, Cond.methodLinkNest own idx y host ∈ zT
theorem zgi {y : MethodName} {cb : ByteArray} {nb : Nat} {rb : Option FieldType} {np : Nat} (h : zMd y cb nb rb np) : GoodIn zT [Cond.code y cb nb rb] := by
  intro w hw
  rw [List.mem_singleton] at hw
  subst hw
  exact ⟨h.1, good_of_word h.2.2.1⟩
theorem Ze_callV {d mc ms idx nb np ci k0 : Nat} {y : MethodName} {cb : ByteArray} {rb : Option FieldType} {As rest : List Value} {C : String} {T : u_T} {N : Nat} {ty0 : Nat → FieldType} {fs : List Value} {Q : Option Value → List va_E → Prop}
    (hC : zCt G d mc ms y cb nb rb (.ref (zB G + k0) :: As) es Q) (hm : zMd y cb nb rb np) (hv : zMv y) (hlk : zLk own idx y) (hc : zCls ci C T N ty0) (hy : y.cls = C) (he : es[k0]? = some (.inr (ci, fs))) (hn : As.length = np) (hst : st = As.reverse ++ .ref (zB G + k0) :: rest) (hW : (rest.map fun v => v.category).sum ≤ 8)
    (hd : decode cc pc = .ok (.invokevirtual idx, 3)) (hR : d + 1 ≤ R.frames ∧ 8 + (nb + 11) + 40 * d ≤ R.locals) (hf : kc + mc ≤ R.cells ∧ ks + ms ≤ R.slots)
    (k : ∀ r es', Q r es' → Z G R own nm cc nL ret Φ (kc + mc) (ks + ms) (pc + 3) lv (r.toList ++ rest) es') : Z G R own nm cc nL ret Φ kc ks pc lv st es := by
  subst hst
  intro p e s m args below meth c H locs ls hA hH hL
  obtain ⟨hx, hb, hr, hml, hown, hw, hK, hS, hlk2, hnm, hB, hAr⟩ := id hA
  have hts := ztbl_use hw args
  have hpre := zpre hA hH (.ref (zB G + k0) :: As)
  have hrc := va_recv (q0 := k0) hK hH.2.1 hc.1 (zws_get he)
  rw [← hy] at hrc
  rcases hlk with hlk | ⟨host, hlk⟩
  · exact zrun (va_runV (As := As) (rest := rest) ⟨hx, hb, hml, hown, hts⟩ hC ⟨callB_of np hts (zgi hm) rfl rfl rfl (hts _ hm.2.1) (hts _ hlk) hm.2.2.2 hR, hts _ hv.1, hts _ hv.2⟩ ⟨hpre.1, hrc, hpre.2⟩ rfl hn hL.1 rfl (lv_room (m := m) (pc := pc) (ls := ls) (rest := _) hW) hd hf) hA hH hL k
  · exact zrun (va_runVN (As := As) (rest := rest) ⟨hx, hb, hml, hown, hts⟩ hC ⟨va_cnB np hts (zgi hm) rfl rfl rfl (hw _ hlk) (hts _ hm.2.1) hm.2.2.2 hR, hts _ hv.1, hts _ hv.2⟩ ⟨hpre.1, hrc, hpre.2⟩ rfl hn hL.1 rfl (lv_room (m := m) (pc := pc) (ls := ls) (rest := _) hW) hd hf) hA hH hL k
theorem Ze_callS {d mc ms idx nb np : Nat} {y : MethodName} {cb : ByteArray} {rb : Option FieldType} {As rest : List Value} {Q : Option Value → List va_E → Prop}
    (hC : zCt G d mc ms y cb nb rb As es Q) (hm : zMd y cb nb rb np) (hv : Cond.static y ∈ zT) (hlk : zLk own idx y) (hn : As.length = np) (hst : st = As.reverse ++ rest) (hW : (rest.map fun v => v.category).sum ≤ 8)
    (hd : decode cc pc = .ok (.invokestatic idx, 3)) (hR : d + 1 ≤ R.frames ∧ 8 + (nb + 11) + 40 * d ≤ R.locals) (hf : kc + mc ≤ R.cells ∧ ks + ms ≤ R.slots)
    (k : ∀ r es', Q r es' → Z G R own nm cc nL ret Φ (kc + mc) (ks + ms) (pc + 3) lv (r.toList ++ rest) es') : Z G R own nm cc nL ret Φ kc ks pc lv st es := by
  subst hst
  intro p e s m args below meth c H locs ls hA hH hL
  obtain ⟨hx, hb, hr, hml, hown, hw, hK, hS, hlk2, hnm, hB, hAr⟩ := id hA
  have hts := ztbl_use hw args
  have hpre := zpre hA hH As
  rcases hlk with hlk | ⟨host, hlk⟩
  · exact zrun (va_runS (As := As) (rest := rest) ⟨hx, hb, hml, hown, hts⟩ hC ⟨callB_of np hts (zgi hm) rfl rfl rfl (hts _ hm.2.1) (hts _ hlk) hm.2.2.2 hR, hts _ hv⟩ hpre rfl hn hL.1 rfl (lv_room (m := m) (pc := pc) (ls := ls) (rest := _) hW) hd hf) hA hH hL k
  · exact zrun (va_runSN (As := As) (rest := rest) ⟨hx, hb, hml, hown, hts⟩ hC ⟨va_cnB np hts (zgi hm) rfl rfl rfl (hw _ hlk) (hts _ hm.2.1) hm.2.2.2 hR, hts _ hv, trivial⟩ hpre rfl hn hL.1 rfl (lv_room (m := m) (pc := pc) (ls := ls) (rest := _) hW) hd hf) hA hH hL k
/-! typed calls: what comes back is an int, a long, nothing -/
def zKi (K : Int → zM → Prop) : Option Value → zM → Prop := fun r μ' => ∃ v, r = some (Iv v) ∧ K v μ'
def zKl (K : Int → zM → Prop) : Option Value → zM → Prop := fun r μ' => ∃ v, r = some (Lv v) ∧ K v μ'
def zKv (K : zM → Prop) : Option Value → zM → Prop := fun r μ' => r = none ∧ K μ'

theorem Z_callVi {d idx nb np ci : Nat} {a : Int} {y : MethodName} {cb : ByteArray} {rb : Option FieldType} {As rest : List Value} {C : String} {T : u_T} {N : Nat} {ty0 : Nat → FieldType} {K : Int → zM → Prop}
    (hC : zMt G n d y cb nb rb (Rv G a :: As) μ (zKi K)) (hm : zMd y cb nb rb np) (hv : zMv y) (hlk : zLk own idx y) (hc : zCls ci C T N ty0) (hy : y.cls = C) (ha : 0 ≤ a ∧ a < n) (hk5 : zk a = 5) (hci : zn a = ci) (hn : As.length = np) (hst : st = As.reverse ++ Rv G a :: rest) (hW : (rest.map fun v => v.category).sum ≤ 8)
    (hd : decode cc pc = .ok (.invokevirtual idx, 3)) (hR : d + 1 ≤ R.frames ∧ 8 + (nb + 11) + 40 * d ≤ R.locals) (hf : kc ≤ R.cells ∧ ks ≤ R.slots)
    (k : ∀ v μ', K v μ' → Z G R own nm cc nL ret Φ kc ks (pc + 3) lv (Iv v :: rest) (zE G n μ')) : Z G R own nm cc nL ret Φ kc ks pc lv st (zE G n μ) := by
  have hg := zE_at (G := G) μ ha.1 ha.2
  rw [zcon_5 ha.1 hk5, hci] at hg
  refine Ze_callV (k0 := a.toNat) hC hm hv hlk hc hy hg hn hst hW hd hR hf ?_
  rintro r es' ⟨μ', rfl, v, rfl, q⟩
  exact k v μ' q
theorem Z_callSi {d idx nb np : Nat} {y : MethodName} {cb : ByteArray} {rb : Option FieldType} {As rest : List Value} {K : Int → zM → Prop}
    (hC : zMt G n d y cb nb rb As μ (zKi K)) (hm : zMd y cb nb rb np) (hv : Cond.static y ∈ zT) (hlk : zLk own idx y) (hn : As.length = np) (hst : st = As.reverse ++ rest) (hW : (rest.map fun v => v.category).sum ≤ 8)
    (hd : decode cc pc = .ok (.invokestatic idx, 3)) (hR : d + 1 ≤ R.frames ∧ 8 + (nb + 11) + 40 * d ≤ R.locals) (hf : kc ≤ R.cells ∧ ks ≤ R.slots)
    (k : ∀ v μ', K v μ' → Z G R own nm cc nL ret Φ kc ks (pc + 3) lv (Iv v :: rest) (zE G n μ')) : Z G R own nm cc nL ret Φ kc ks pc lv st (zE G n μ) := by
  refine Ze_callS hC hm hv hlk hn hst hW hd hR hf ?_
  rintro r es' ⟨μ', rfl, v, rfl, q⟩
  exact k v μ' q
theorem Z_callVl {d idx nb np ci : Nat} {a : Int} {y : MethodName} {cb : ByteArray} {rb : Option FieldType} {As rest : List Value} {C : String} {T : u_T} {N : Nat} {ty0 : Nat → FieldType} {K : Int → zM → Prop}
    (hC : zMt G n d y cb nb rb (Rv G a :: As) μ (zKl K)) (hm : zMd y cb nb rb np) (hv : zMv y) (hlk : zLk own idx y) (hc : zCls ci C T N ty0) (hy : y.cls = C) (ha : 0 ≤ a ∧ a < n) (hk5 : zk a = 5) (hci : zn a = ci) (hn : As.length = np) (hst : st = As.reverse ++ Rv G a :: rest) (hW : (rest.map fun v => v.category).sum ≤ 8)
    (hd : decode cc pc = .ok (.invokevirtual idx, 3)) (hR : d + 1 ≤ R.frames ∧ 8 + (nb + 11) + 40 * d ≤ R.locals) (hf : kc ≤ R.cells ∧ ks ≤ R.slots)
    (k : ∀ v μ', K v μ' → Z G R own nm cc nL ret Φ kc ks (pc + 3) lv (Lv v :: rest) (zE G n μ')) : Z G R own nm cc nL ret Φ kc ks pc lv st (zE G n μ) := by
  have hg := zE_at (G := G) μ ha.1 ha.2
  rw [zcon_5 ha.1 hk5, hci] at hg
  refine Ze_callV (k0 := a.toNat) hC hm hv hlk hc hy hg hn hst hW hd hR hf ?_
  rintro r es' ⟨μ', rfl, v, rfl, q⟩
  exact k v μ' q
theorem Z_callSl {d idx nb np : Nat} {y : MethodName} {cb : ByteArray} {rb : Option FieldType} {As rest : List Value} {K : Int → zM → Prop}
    (hC : zMt G n d y cb nb rb As μ (zKl K)) (hm : zMd y cb nb rb np) (hv : Cond.static y ∈ zT) (hlk : zLk own idx y) (hn : As.length = np) (hst : st = As.reverse ++ rest) (hW : (rest.map fun v => v.category).sum ≤ 8)
    (hd : decode cc pc = .ok (.invokestatic idx, 3)) (hR : d + 1 ≤ R.frames ∧ 8 + (nb + 11) + 40 * d ≤ R.locals) (hf : kc ≤ R.cells ∧ ks ≤ R.slots)
    (k : ∀ v μ', K v μ' → Z G R own nm cc nL ret Φ kc ks (pc + 3) lv (Lv v :: rest) (zE G n μ')) : Z G R own nm cc nL ret Φ kc ks pc lv st (zE G n μ) := by
  refine Ze_callS hC hm hv hlk hn hst hW hd hR hf ?_
  rintro r es' ⟨μ', rfl, v, rfl, q⟩
  exact k v μ' q
theorem Z_callVv {d idx nb np ci : Nat} {a : Int} {y : MethodName} {cb : ByteArray} {rb : Option FieldType} {As rest : List Value} {C : String} {T : u_T} {N : Nat} {ty0 : Nat → FieldType} {K : zM → Prop}
    (hC : zMt G n d y cb nb rb (Rv G a :: As) μ (zKv K)) (hm : zMd y cb nb rb np) (hv : zMv y) (hlk : zLk own idx y) (hc : zCls ci C T N ty0) (hy : y.cls = C) (ha : 0 ≤ a ∧ a < n) (hk5 : zk a = 5) (hci : zn a = ci) (hn : As.length = np) (hst : st = As.reverse ++ Rv G a :: rest) (hW : (rest.map fun v => v.category).sum ≤ 8)
    (hd : decode cc pc = .ok (.invokevirtual idx, 3)) (hR : d + 1 ≤ R.frames ∧ 8 + (nb + 11) + 40 * d ≤ R.locals) (hf : kc ≤ R.cells ∧ ks ≤ R.slots)
    (k : ∀ μ', K μ' → Z G R own nm cc nL ret Φ kc ks (pc + 3) lv rest (zE G n μ')) : Z G R own nm cc nL ret Φ kc ks pc lv st (zE G n μ) := by
  have hg := zE_at (G := G) μ ha.1 ha.2
  rw [zcon_5 ha.1 hk5, hci] at hg
  refine Ze_callV (k0 := a.toNat) hC hm hv hlk hc hy hg hn hst hW hd hR hf ?_
  rintro r es' ⟨μ', rfl, rfl, q⟩
  exact k μ' q
theorem Z_callSv {d idx nb np : Nat} {y : MethodName} {cb : ByteArray} {rb : Option FieldType} {As rest : List Value} {K : zM → Prop}
    (hC : zMt G n d y cb nb rb As μ (zKv K)) (hm : zMd y cb nb rb np) (hv : Cond.static y ∈ zT) (hlk : zLk own idx y) (hn : As.length = np) (hst : st = As.reverse ++ rest) (hW : (rest.map fun v => v.category).sum ≤ 8)
    (hd : decode cc pc = .ok (.invokestatic idx, 3)) (hR : d + 1 ≤ R.frames ∧ 8 + (nb + 11) + 40 * d ≤ R.locals) (hf : kc ≤ R.cells ∧ ks ≤ R.slots)
    (k : ∀ μ', K μ' → Z G R own nm cc nL ret Φ kc ks (pc + 3) lv rest (zE G n μ')) : Z G R own nm cc nL ret Φ kc ks pc lv st (zE G n μ) := by
  refine Ze_callS hC hm hv hlk hn hst hW hd hR hf ?_
  rintro r es' ⟨μ', rfl, rfl, q⟩
  exact k μ' q
theorem zmax (a b : Int) : (let x := Int32.ofInt a; let y := Int32.ofInt b; if x < y then y else x) = Int32.ofInt (max (wr a) (wr b)) := by
  dsimp only
  split
  · rename_i h
    have h := zi_lt.mp h
    rw [show max (wr a) (wr b) = wr b by omega]
    unfold wr; rw [Int32.ofInt_toInt]
  · rename_i h
    have h := mt zi_lt.mpr h
    rw [show max (wr a) (wr b) = wr a by omega]
    unfold wr; rw [Int32.ofInt_toInt]
theorem Z_max {a b : Int} {idx : Nat} (hl : Cond.methodLink own idx Lib.Math.max.name ∈ zT) (h1 : Cond.static Lib.Math.max.name ∈ zT) (h2 : Cond.initialized "java/lang/Math" ∈ zT) (h3 : Cond.code Lib.Math.max.name Lib.Math.max.code 2 (some .int) ∈ zT) (hR : 1 ≤ R.frames ∧ (st.map fun v => v.category).sum + 13 ≤ R.locals) (hf : kc ≤ R.cells ∧ ks ≤ R.slots) (hd : decode cc pc = .ok (.invokestatic idx, 3))
    (k : Z G R own nm cc nL ret Φ kc ks (pc + 3) lv (Iv (max (wr a) (wr b)) :: st) es) : Z G R own nm cc nL ret Φ kc ks pc lv (Iv b :: Iv a :: st) es := by
  intro p e s m args below meth c H locs ls hA hH hL
  obtain ⟨hx, hb, hr, hml, hown, hw, hK, hS, hlk, hnm, hB, hAr⟩ := id hA
  have hts := ztbl_use hw args
  have h4 := k p e s m args below meth c H locs ls hA hH hL
  unfold Iv at h4
  rw [← zmax] at h4
  exact va_mmax hx hb (hml.trans hL.1.symm) hown (hts _ hl) (hts _ h1) (hts _ h2) (hts _ h3) hR.1 hR.2 hf.1 hf.2 hd h4
theorem zmin (a b : Int) : (let x := Int32.ofInt a; let y := Int32.ofInt b; if y < x then y else x) = Int32.ofInt (min (wr a) (wr b)) := by
  dsimp only
  split
  · rename_i h
    have h := zi_lt.mp h
    rw [show min (wr a) (wr b) = wr b by omega]
    unfold wr; rw [Int32.ofInt_toInt]
  · rename_i h
    have h := mt zi_lt.mpr h
    rw [show min (wr a) (wr b) = wr a by omega]
    unfold wr; rw [Int32.ofInt_toInt]
theorem Z_min {a b : Int} {idx : Nat} (hl : Cond.methodLink own idx Lib.Math.min.name ∈ zT) (h1 : Cond.static Lib.Math.min.name ∈ zT) (h2 : Cond.initialized "java/lang/Math" ∈ zT) (h3 : Cond.code Lib.Math.min.name Lib.Math.min.code 2 (some .int) ∈ zT) (hR : 1 ≤ R.frames ∧ (st.map fun v => v.category).sum + 13 ≤ R.locals) (hf : kc ≤ R.cells ∧ ks ≤ R.slots) (hd : decode cc pc = .ok (.invokestatic idx, 3))
    (k : Z G R own nm cc nL ret Φ kc ks (pc + 3) lv (Iv (min (wr a) (wr b)) :: st) es) : Z G R own nm cc nL ret Φ kc ks pc lv (Iv b :: Iv a :: st) es := by
  intro p e s m args below meth c H locs ls hA hH hL
  obtain ⟨hx, hb, hr, hml, hown, hw, hK, hS, hlk, hnm, hB, hAr⟩ := id hA
  have hts := ztbl_use hw args
  have h4 := k p e s m args below meth c H locs ls hA hH hL
  unfold Iv at h4
  rw [← zmin] at h4
  exact va_mmin hx hb (hml.trans hL.1.symm) hown (hts _ hl) (hts _ h1) (hts _ h2) (hts _ h3) hR.1 hR.2 hf.1 hf.2 hd h4
def zcp (μ : zM) (a i b j c : Int) : zM := fun b' j' => if b' = b ∧ j ≤ j' ∧ j' < j + c then μ a (i + (j' - j)) else μ b' j'
theorem Z_copy {a b i j cn : Int} {idx : Nat} (hl : Cond.methodLink own idx arraycopyName ∈ zT) (h1 : Cond.native arraycopyName ∈ zT) (h2 : Cond.static arraycopyName ∈ zT) (h3 : Cond.initialized "java/lang/System" ∈ zT)
    (ha : 0 ≤ a ∧ a < n ∧ zk a = 0) (hb' : 0 ≤ b ∧ b < n ∧ zk b = 0) (hi : 0 ≤ wr i ∧ wr i + wr cn ≤ zn a) (hj : 0 ≤ wr j ∧ wr j + wr cn ≤ zn b) (hc : 0 ≤ wr cn)
    (hR : 1 ≤ R.frames ∧ (st.map fun v => v.category).sum + (nativeFrameWords "java/lang/System" "arraycopy" 5 + 11) ≤ R.locals) (hd : decode cc pc = .ok (.invokestatic idx, 3))
    (k : Z G R own nm cc nL ret Φ kc ks (pc + 3) lv st (zE G n (zcp μ a (wr i) b (wr j) (wr cn)))) : Z G R own nm cc nL ret Φ kc ks pc lv (Iv cn :: Iv j :: Rv G b :: Iv i :: Rv G a :: st) (zE G n μ) := by
  intro p e s m args below meth c H locs ls hA hH hL
  obtain ⟨hx, hb, hr, hml, hown, hw, hK, hS, hlk, hnm, hB, hAr⟩ := id hA
  have hts := ztbl_use hw args
  have g0 := zE_at (G := G) μ ha.1 ha.2.1
  rw [zcon_0 ha.1 ha.2.2] at g0
  have g1 := zE_at (G := G) μ hb'.1 hb'.2.1
  have g2 := g1
  rw [zcon_0 hb'.1 hb'.2.2] at g1
  have hc0 := hH.2.1 a.toNat _ (zws_get g0)
  have hc1 := hH.2.1 b.toNat _ (zws_get g1)
  have nlt : ∀ z : Int, 0 ≤ wr z → ¬ Int32.ofInt z < 0 := fun z hz q => by have := zi_lt0.mp q; omega
  have ix : ∀ z : Int, 0 ≤ wr z → (((Int32.ofInt z).toNatClampNeg : Nat) : Int) = wr z := fun z hz => by show (((wr z).toNat : Nat) : Int) = wr z; omega
  have x1 := ix i hi.1
  have x2 := ix j hj.1
  have x3 := ix cn hc
  intro T hT X
  obtain ⟨-, k0, hk0, cm0, hkk0⟩ := (hK.2 0 _ rfl).1 (zn a) (fun q => .int (Int32.ofInt (μ a q)))
  obtain ⟨-, k1, hk1, cm1, hkk1⟩ := (hK.2 0 _ rfl).1 (zn b) (fun q => .int (Int32.ofInt (μ b q)))
  obtain ⟨vm', X', step⟩ := X.arraycopy hx hown (hts _ hl) (hts _ h1) (hts _ h2) (hts _ h3) (src := zB G + a.toNat) (dst := zB G + b.toNat) (cs := vp_cell (zC G 0) (zn a, .inl (fun q => Int32.ofInt (μ a q)))) (cd := vp_cell (zC G 0) (zn b, .inl (fun q => Int32.ofInt (μ b q)))) (srcPos := Int32.ofInt i) (destPos := Int32.ofInt j) (n := Int32.ofInt cn) (by rw [hT]; exact hc0) (by rw [hT]; exact hc1)
    (fun _ h => by cases h) (fun _ h => by cases h) (fun h => by cases h) (fun h => by cases h) hk0 hk1 hkk0 hkk1 (by simp [refKind]) (nlt i hi.1) (nlt j hj.1) (nlt cn hc)
    (by show ¬ (wr i + wr cn > ((arrV (zC G 0) (zn a) _).slots.size : Int)); rw [arrV_size]; omega)
    (by show ¬ (wr j + wr cn > ((arrV (zC G 0) (zn b) _).slots.size : Int)); rw [arrV_size]; omega)
    (fun vm₁ _ q hq => by
      have e : (vp_cell (zC G 0) (zn a, .inl (fun q => Int32.ofInt (μ a q)))).slots.getD ((Int32.ofInt i).toNatClampNeg + q) .null = .int (Int32.ofInt (μ a ((Int32.ofInt i).toNatClampNeg + q : Nat))) := by
        show (arrV (zC G 0) (zn a) (fun q : Nat => .int (Int32.ofInt (μ a q)))).slots.getD _ _ = _
        rw [Array.getD_eq_getD_getElem?, arrV_read _ _ (by omega)]
        rfl
      refine ⟨?_, ?_⟩
      · rw [e]; rfl
      · rw [e]; exact trivial)
    (g := F0 m pc ls (Iv cn :: Iv j :: Rv G b :: Iv i :: Rv G a :: st)) rfl (hL.1.trans hml.symm) (rest := st) rfl (by rw [hb]; exact hd) hR.1 (by show 2 * 0 + _ + _ ≤ _; omega)
  have e1 : copied (vp_cell (zC G 0) (zn a, .inl (fun q => Int32.ofInt (μ a q)))) (vp_cell (zC G 0) (zn b, .inl (fun q => Int32.ofInt (μ b q)))) (Int32.ofInt i) (Int32.ofInt j) (Int32.ofInt cn) = vp_cell (zC G 0) (zn b, .inl (va_cpy (fun q : Nat => Int32.ofInt (μ a q)) (fun q : Nat => Int32.ofInt (μ b q)) (Int32.ofInt i).toNatClampNeg (Int32.ofInt j).toNatClampNeg (Int32.ofInt cn).toNatClampNeg)) := va_copied (fun z => .int z) (zC G 0) (zC G 0) (n0 := zn a) (n1 := zn b) (sp := (Int32.ofInt i).toNatClampNeg) (dp := (Int32.ofInt j).toNatClampNeg) (n := (Int32.ofInt cn).toNatClampNeg) (fun q : Nat => Int32.ofInt (μ a q)) (fun q : Nat => Int32.ofInt (μ b q)) (by omega)
  have e2 : va_cpy (fun q : Nat => Int32.ofInt (μ a q)) (fun q : Nat => Int32.ofInt (μ b q)) (Int32.ofInt i).toNatClampNeg (Int32.ofInt j).toNatClampNeg (Int32.ofInt cn).toNatClampNeg = fun q : Nat => Int32.ofInt (zcp μ a (wr i) b (wr j) (wr cn) b q) := by
    funext q
    unfold va_cpy zcp
    by_cases hq : (Int32.ofInt j).toNatClampNeg ≤ q ∧ q < (Int32.ofInt j).toNatClampNeg + (Int32.ofInt cn).toNatClampNeg
    · rw [if_pos hq, if_pos ⟨rfl, by omega, by omega⟩]
      have : (((Int32.ofInt i).toNatClampNeg + (q - (Int32.ofInt j).toNatClampNeg) : Nat) : Int) = wr i + (q - wr j) := by omega
      dsimp only
      rw [this]
    · rw [if_neg hq, if_neg (by rintro ⟨-, q1, q2⟩; exact hq ⟨by omega, by omega⟩)]
  rw [e1, e2] at X' step
  generalize hcell : vp_cell (zC G 0) (zn b, .inl (fun q : Nat => Int32.ofInt (zcp μ a (wr i) b (wr j) (wr cn) b q))) = cell at X' step
  have hlt : zB G + b.toNat < H.size := (Array.getElem?_eq_some_iff.mp hc1).1
  have hheap : ((T.setVm vm').setCell (zB G + b.toNat) cell).heap = H.setIfInBounds (zB G + b.toNat) cell := by rw [← hT]; rfl
  have oq : ∀ q : Nat, q ≠ zB G + b.toNat → (H.setIfInBounds (zB G + b.toNat) cell)[q]? = H[q]? := fun q hq => by simp [Array.getElem?_setIfInBounds, Ne.symm hq]
  have hat : va_at (zD G) vwCl (zB G + b.toNat, zcon (zB G) (zC G) n b.toNat (zcp μ a (wr i) b (wr j) (wr cn) b)) (H.setIfInBounds (zB G + b.toNat) cell) := by
    rw [zcon_0 hb'.1 hb'.2.2]
    show (H.setIfInBounds _ cell)[_]? = some (vp_cell _ _)
    rw [hcell]
    simp [Array.getElem?_setIfInBounds, hlt]
  have hz : (H.setIfInBounds (zB G + b.toNat) cell).size = H.size := by simp
  have hst0 := zstored (x := 0) hH g2 hat hz oq
  rw [zE_set (G := G) (μ := μ) (μ' := zcp μ a (wr i) b (wr j) (wr cn)) (k := b.toNat) (by omega) (by rw [show ((b.toNat : Nat) : Int) = b by omega]) (fun k' hk' => by funext q; unfold zcp; rw [if_neg]; rintro ⟨q1, -⟩; omega)] at hst0
  have hS3 : ∀ (zz : List (Value × Nat)), ∀ l ∈ locs ++ zz.map (fun q => (⟨zB G + b.toNat, (Int32.ofInt j).toNatClampNeg + q.2⟩ : Loc)), zA G l.base := fun zz l hl => by
    rcases List.mem_append.mp hl with h | h
    · exact hH.2.2.2.2 l h
    · obtain ⟨z, -, hz⟩ := List.mem_map.mp h
      rw [← hz]
      show zB G ≤ zB G + b.toNat
      omega
  obtain ⟨t, a1, b1⟩ := k p e s m args below meth c (H.setIfInBounds (zB G + b.toNat) cell) _ ls hA ⟨hst0.1, hst0.2.1, hst0.2.2.1, hst0.2.2.2.1, hS3 _⟩ hL _ hheap X'
  exact ⟨t, step t a1, b1⟩
end ZC
