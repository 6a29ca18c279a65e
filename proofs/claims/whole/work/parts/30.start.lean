/-! the law from its entry -/
def R_law : String := "CallStagesLaw"
def lw_P (b : Addr) (xs : List Int32) (args : Array Value) (s : State) : Prop := args = #[.ref b] ∧ s.IntsAt b xs ∧ xs.length ≤ 2560 ∧ (Jvm.Cond.and given_1 narrow_1).before args s = true
def lw_Q (_ : Array Value) (s : State) (o : Outcome) (t : State) : Prop := o = .returned (some (.int 1)) ∧ Framed s o t [] 600000 7302250
def lw_Z (below : List Frame) (a : Array Value) (s : State) : State → Prop := fun t => ∃ o, t.status = .running ∧ Ended t below o ∧ lw_Q a s o t
/-- the law's own end, with 1 on the stack, nothing written that was there before, its room as the claim has it -/
theorem lw_ret {p : Program} {l : Launch} {e : Env} {s : State} {m : MethodId} {below : List Frame} {meth : Method} {c : Code} {b : Nat} (hx : p.tables.exec = Jvm.exec) (hb : c.code = code) (hr : meth.sig.returnType = ret) (hlocks : meth.locks = false) {pc : Nat} {H : Heap} {ls : Array Slot} (hdg : decode code pc = .ok (.ireturn, 1)) : W p l e room_1 s m #[Value.ref b] below meth c H [] 600000 7302250 (lw_Z below #[Value.ref b] s) (F0 m pc ls [.int 1]) := by
  intro T hT X
  obtain ⟨fs, hret, hrun, hended, hW, hframe⟩ := X.leave (v := some (.int 1)) (hlocks := hlocks) (fun h => by rw [hr] at h; cases h)
  have hmeth' : T.vm.method? m = some meth := X.method'
  refine ⟨T.setFrames fs, ?_, .returned (some (.int 1)), hrun, hended, rfl, ⟨_, rfl⟩, hW, hframe⟩
  jvm_step X.here [X.here.top, hx, hb, hdg, hmeth', hr, ret, narrow_b1]
  (try refine ⟨rfl, ?_⟩); (try refine ⟨rfl, ?_⟩)
  first | (intro acts; rw [hret _ acts rfl rfl rfl]) | rw [hret _ _ rfl rfl rfl]
  exact Steps.refl _
/-- what holds at the law's entry -/
def lw_At (p : Program) (s : State) (m : MethodId) (meth : Method) (c : Code) (b L : Nat) (xs : Nat → Int32) : Prop :=
  p.tables.exec = Jvm.exec ∧ c.code = code ∧ meth.sig.returnType = ret ∧ c.maxLocals = 4 ∧ s.vm.findClass R_law = some m.cls ∧ (∀ w ∈ lw_tbl, w.before #[Value.ref b] s = true) ∧ va_X b L xs s s.heap ∧ b < s.heap.size ∧ meth.locks = false ∧ (Jvm.Cond.and given_1 narrow_1).before #[Value.ref b] s = true ∧ meth.name = "law"
/-- the law's end: nothing older than B written -/
def zPhL (G : zG) : zPhi := fun below args s t => args = #[Value.ref (zsb G)] → zB G = s.heap.size → lw_Z below args s t
theorem law_end {G : zG} {es : List va_E} {kc ks : Nat} (hk : kc ≤ 600000) (hs : ks ≤ 7302250) {lv : List (Option Value)} : Z G room_1 RL "law" cL_law 4 (some .boolean) (zPhL G) kc ks 1489 lv [] es := by
  refine Z_iconst dL_law_1489 ?_
  intro p e s m args below meth c H locs ls hA hH hL
  obtain ⟨hx, hb, hr, hml, hown, hw, hK, hS, hlk, hnm, hB, hAr⟩ := id hA
  intro T hT X
  by_cases ha : args = #[Value.ref (zsb G)] ∧ zB G = s.heap.size
  · obtain ⟨rfl, hB2⟩ := ha
    have key : W p (zl G) e room_1 s m #[Value.ref (zsb G)] below meth c H locs kc ks (lw_Z below #[Value.ref (zsb G)] s) (F0 m 1490 ls [.int 1]) := by
      refine va_forget (fun q hq => by rw [← hB2]; exact hH.2.2.2.2 q hq) ?_
      refine W.widen (k := 600000) (n := 7302250) hk hs ?_
      exact lw_ret hx hb hr hlk dL_law_1490
    obtain ⟨t, a1, b1⟩ := key T hT X
    exact ⟨t, a1, fun _ _ => b1⟩
  · exact ⟨_, Steps.refl _, fun h1 h2 => absurd ⟨h1, h2⟩ ha⟩
def zInit (G : zG) (Inv : zM → Prop) : Prop := mX6_forgetCalls G 19 (zmem 1 fX6_init (fun _ _ => 0)) (fun μ0 => mX0_leadAllRows G 45 (zmem 30 fX0_init (zmem 26 fX2_init (zmem 19 fX1_init μ0))) (fun μ3 => mX4_matchNone G 118 (zmem 99 fX4_init (zmem 45 fX3_init μ3)) (fun μ5 => Inv (zmem 127 fX8_init (zu (zmem 126 (fun _ _ => 0) (zmem 118 fX5_init μ5)) 0 8 0)))))
theorem law_begin {G : zG} {Inv : zM → Prop} (HI : zInit G Inv) (Hp : zPairs G 154 Inv) (hL : zsL G ≤ 2560) : Z G room_1 RL "law" cL_law 4 (some .boolean) (zPhL G) 0 0 0 [some (.ref (zsb G)), none, none, none] [] [] := by
  refine Ze_new (fs := [.null, .null, .null, .null, .null, .null, .null, .null, Iv 0]) zcX7 cr_L_7 is_X7 in_X7 (by decide) ⟨by decide, by decide⟩ dL_law_0 ?_
  refine Z_cs (kc' := 1) (ks' := 9) rfl rfl ?_
  refine Zc_ref (b := 0) rfl ?_
  refine Z_dup dL_law_3 rfl ?_
  refine Ze_callI (k0 := 0) (eX7_init (Q := fun r es => r = none ∧ ∃ m : zM, es = zP G 154 127 m ∧ Inv (zmem 127 fX8_init m)) (mono_v HI (fun μ0 h => mono_v h (fun μ3 h => mono_v h (fun μ5 h => ⟨rfl, _, rfl, h⟩))))) md_X7_init iv_X7_init rfl lk_L_9 rfl rfl (Nat.le_of_ble_eq_true rfl) dL_law_4 ⟨by decide, Nat.le_of_ble_eq_true rfl⟩ ⟨by decide, by decide⟩ ?_
  rintro r es ⟨rfl, m, rfl, hI⟩
  refine Z_cs (kc' := 127) (ks' := 1318) rfl rfl ?_
  refine Z_astore_n (a := 0) (lv2 := [some (.ref (zsb G)), some (Rv G 0), none, none]) dL_law_7 rfl (by decide) rfl ?_
  refine Ze_new (fs := [Iv 0, Iv 0, Iv 0, Iv 0, Iv 0, .null, .null, .null, Iv 0, Iv 0, .null, .null, Iv 0, .null, .null, .null, .null, Iv 0, Lv 0, Lv 0, .null, .null, .null, .null, Iv 0, Iv 0, .null, .null, .null, .null, Iv 0, .null, .null, .null, .null, .null, .null, .null, Iv 0, .null, .null]) zcX8 cr_L_10 is_X8 in_X8 (by decide) ⟨by decide, by decide⟩ dL_law_8 ?_
  refine Z_cs (kc' := 128) (ks' := 1359) rfl rfl ?_
  refine Zc_ref (b := 127) (zP_len _ _ _ _) ?_
  refine Z_dup dL_law_11 rfl ?_
  refine Ze_callI (k0 := 127) (eX8_init (μ := m) (Q := fun r es => r = none ∧ es = zE G 154 (zmem 127 fX8_init m)) ⟨rfl, rfl⟩) md_X8_init iv_X8_init rfl lk_L_12 rfl rfl (Nat.le_of_ble_eq_true rfl) dL_law_12 ⟨by decide, Nat.le_of_ble_eq_true rfl⟩ ⟨by decide, by decide⟩ ?_
  rintro r es ⟨rfl, rfl⟩
  refine Z_cs (kc' := 154) (ks' := 1928) rfl rfl ?_
  refine Z_astore_n (a := 127) (lv2 := [some (.ref (zsb G)), some (Rv G 0), some (Rv G 127), none]) dL_law_15 rfl (by decide) rfl ?_
  refine Z_iconst dL_law_16 ?_
  refine Z_istore_n (lv2 := [some (.ref (zsb G)), some (Rv G 0), some (Rv G 127), some (Iv 0)]) dL_law_17 rfl (by decide) rfl ?_
  exact law_loop (Nat.le_refl 154) (by decide) (by decide) Hp hL (fun x3 μ => law_end (by decide) (by decide)) (zsL G + 1) 0 _ (by decide) (by decide) (by omega) hI
theorem zOv_of {t : FieldType} {args : Array Value} {s : State} (h : (Cond.arrayOver (.array t)).before args s = true) : zOv t s := by
  simp only [Cond.before, Cond.holds, Cond.value, beq_iff_eq] at h
  cases hc : s.vm.findClass (FieldType.array t).toString with
  | none => rw [hc] at h; simp at h
  | some comp =>
    rw [hc] at h
    simp only [Option.bind_some, Option.bind_eq_some_iff, Option.map_eq_some_iff] at h
    obtain ⟨c, hi, k, hk, hb⟩ := h
    obtain ⟨hlt, hp, -⟩ := Array.findIdx?_eq_some_iff_getElem.mp hi
    have hkk : s.vm.classes[c] = k := (Array.getElem?_eq_some_iff.mp hk).2
    rw [hkk] at hp
    cases hkind : k.kind with
    | array component ty =>
      rw [hkind] at hb hp
      simp at hb hp
      exact ⟨comp, c, k, hc, hi, hk, by rw [hkind, hp, hb.1], hb.2⟩
    | _ => rw [hkind] at hb; simp at hb
