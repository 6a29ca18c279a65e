theorem zsh_obj : ∀ p ∈ zsh.drop 1, p.1 = 5 → p.2 ≠ 7 := by decide +kernel
theorem zft_n {n n2 ci : Nat} (h : ci ≠ 7) : zft n ci = zft n2 ci := by
  unfold zft
  split <;> first | rfl | (exfalso; exact h rfl)
theorem zcon_n {B : Nat} {C : Nat → ClassId} {n n2 k : Nat} {f : Int → Int} (h : 0 < k) : zcon B C n k f = zcon B C n2 k f := by
  unfold zcon
  have key : zk (k : Int) = 5 → zn (k : Int) ≠ 7 := by
    intro h5
    unfold zk at h5
    unfold zn
    rw [List.getD_eq_getElem?_getD] at h5 ⊢
    rw [Int.toNat_natCast] at h5 ⊢
    cases hk : zsh[k]? with
    | none => rw [hk] at h5; simp at h5
    | some p =>
      rw [hk] at h5
      refine zsh_obj p ?_ h5
      refine List.mem_of_getElem? (i := k - 1) ?_
      rw [List.getElem?_drop, show 1 + (k - 1) = k by omega]
      exact hk
  have key2 : zk (k : Int) = 5 ∨ zn (k : Int) = 0 ∨ zk (k : Int) < 5 := by
    unfold zk zn
    rw [List.getD_eq_getElem?_getD, Int.toNat_natCast]
    cases hk : zsh[k]? with
    | none => simp
    | some p =>
      have h6 : ∀ p ∈ zsh, p.1 ≤ 5 := by decide +kernel
      have := h6 p (List.mem_of_getElem? hk)
      simp
      omega
  split
  · rfl
  split
  · rfl
  split
  · rfl
  split
  · rfl
  split
  · rfl
  · have h7 : zn (k : Int) ≠ 7 := by
      rcases key2 with q | q | q
      · exact key q
      · omega
      · omega
    unfold zfl
    rw [zft_n h7]
theorem zE0 {G : zG} {n : Nat} {μ : zM} (h : 0 < n) : (zE G n μ)[0]? = some (.inr (7, zfl (zB G) n 7 (μ 0))) := by
  rw [zE_get μ h]; rfl
theorem zP0 {G : zG} {n m : Nat} {μ : zM} {t : List va_E} (h : 0 < m) : (zP G n m μ ++ t)[0]? = some (.inr (7, zfl (zB G) n 7 (μ 0))) := by
  rw [List.getElem?_append_left (by rw [zP_len]; exact h)]
  unfold zP
  rw [List.getElem?_map, List.getElem?_range h]; rfl
theorem zstep0 {G : zG} {n n2 j : Nat} {v : Value} {μ : zM} (h : 0 < n) (hf : (zfl (zB G) n 7 (μ 0)).set j v = zfl (zB G) n2 7 (μ 0)) : (zE G n μ).set 0 (.inr (7, (zfl (zB G) n 7 (μ 0)).set j v)) = zP G n2 n μ := by
  apply List.ext_getElem?
  intro i
  by_cases hi : i = 0
  · subst hi
    rw [List.getElem?_set_self (by rw [zE_len]; exact h), hf]
    unfold zP
    rw [List.getElem?_map, List.getElem?_range h]; rfl
  · rw [List.getElem?_set_ne (Ne.symm hi)]
    by_cases hl : i < n
    · rw [zE_get μ hl]
      unfold zP
      rw [List.getElem?_map, List.getElem?_range hl]
      show some _ = some _
      rw [zcon_n (by omega)]
    · rw [List.getElem?_eq_none (by rw [zE_len]; omega), List.getElem?_eq_none (by rw [zP_len]; omega)]
theorem zstep8 {G : zG} {n m : Nat} {v : Int} {μ : zM} (h : 0 < m) (ht : (zft n 7)[8]? = some (-1)) : (zP G n m μ).set 0 (.inr (7, (zfl (zB G) n 7 (μ 0)).set 8 (Iv v))) = zP G n m (zu μ 0 8 v) := by
  apply List.ext_getElem?
  intro i
  by_cases hi : i = 0
  · subst hi
    rw [List.getElem?_set_self (by rw [zP_len]; exact h), zfl_set (v := v) ht (Or.inl ⟨rfl, rfl⟩)]
    unfold zP
    rw [List.getElem?_map, List.getElem?_range h]
    show some _ = some (zcon _ _ n 0 (zu μ 0 8 v 0))
    rw [zu_cell]; rfl
  · rw [List.getElem?_set_ne (Ne.symm hi)]
    unfold zP
    rw [List.getElem?_map, List.getElem?_map]
    by_cases hl : i < m
    · rw [List.getElem?_range hl]
      show some _ = some (zcon _ _ n i (zu μ 0 8 v i))
      rw [zu_cell_ne (by omega)]
    · rw [List.getElem?_eq_none (by simp; omega)]; rfl
theorem eX7_init {G : zG} {Q : Option Value → List va_E → Prop} (h : mX6_forgetCalls G 19 (zmem 1 fX6_init (fun _ _ => 0)) (fun μ0 => mX0_leadAllRows G 45 (zmem 30 fX0_init (zmem 26 fX2_init (zmem 19 fX1_init μ0))) (fun μ3 => mX4_matchNone G 118 (zmem 99 fX4_init (zmem 45 fX3_init μ3)) (fun μ5 => Q none (zP G 154 127 (zu (zmem 126 (fun _ _ => 0) (zmem 118 fX5_init μ5)) 0 8 0)))))) : zCt G 6 126 1309 yX7_init cX7_init 1 none [Rv G 0] [.inr (7, [.null, .null, .null, .null, .null, .null, .null, .null, Iv 0])] Q := by
  refine zCt_of (lv := [some (Rv G 0)]) (by decide) rfl (Nat.le_of_ble_eq_true rfl) ?_
  show Z G (zrm 6 126 1309) RX7 "<init>" cX7_init 1 none (zPhe G 126 1309 Q) 0 0 0 [some (Rv G 0)] [] [.inr (7, [.null, .null, .null, .null, .null, .null, .null, .null, Iv 0])]
  refine Z_aload_n dX7_init_0 rfl ?_
  refine Z_objInit oi_X7 oi2 oi3 ⟨by decide, Nat.le_of_ble_eq_true rfl⟩ dX7_init_1 ?_
  refine Z_es (es2 := zP G 19 1 (fun _ _ => 0)) rfl ?_
  refine Z_aload_n dX7_init_4 rfl ?_
  refine Ze_new (fs := [Iv 0, Iv 0, Iv 0, Iv 0, .null, .null, .null, .null, .null, .null, .null, Iv 0, Iv 0]) zcX6 cr_X7_9 is_X6 in_X6 (by decide) ⟨by decide, by decide⟩ dX7_init_5 ?_
  refine Z_cs (kc' := 1) (ks' := 13) rfl rfl ?_
  refine Zc_ref (b := 1) (zP_len _ _ _ _) ?_
  refine Z_dup dX7_init_8 rfl ?_
  refine Ze_callI (k0 := 1) (eX6_init (Q := fun r es => r = none ∧ ∃ m : zM, es = zE G 19 m ∧ mX0_leadAllRows G 45 (zmem 30 fX0_init (zmem 26 fX2_init (zmem 19 fX1_init m))) (fun μ3 => mX4_matchNone G 118 (zmem 99 fX4_init (zmem 45 fX3_init μ3)) (fun μ5 => Q none (zP G 154 127 (zu (zmem 126 (fun _ _ => 0) (zmem 118 fX5_init μ5)) 0 8 0))))) (mono_v h (fun m q => ⟨rfl, m, rfl, q⟩))) md_X6_init iv_X6_init rfl lk_X7_11 rfl rfl (Nat.le_of_ble_eq_true rfl) dX7_init_9 ⟨by decide, Nat.le_of_ble_eq_true rfl⟩ ⟨by decide, by decide⟩ ?_
  rintro r0 es0 ⟨rfl, m0, rfl, h⟩
  refine Z_cs (kc' := 18) (ks' := 193) rfl rfl ?_
  refine Ze_putF (v := Rv G 1) (k0 := 0) zcX7 fk_X7_12 (by decide) rfl rfl rfl (tyX7_ok 0 (by decide)) rfl rfl (zE0 (by decide)) (Nat.le_of_ble_eq_true rfl) dX7_init_12 ?_
  refine Z_es (es2 := zP G 26 19 m0) (zstep0 (by decide) rfl) ?_
  refine Z_aload_n dX7_init_15 rfl ?_
  refine Ze_new (fs := [Iv 0, .null, .null]) zcX1 cr_X7_18 is_X1 in_X1 (by decide) ⟨by decide, by decide⟩ dX7_init_16 ?_
  refine Z_cs (kc' := 19) (ks' := 196) rfl rfl ?_
  refine Zc_ref (b := 19) (zP_len _ _ _ _) ?_
  refine Z_dup dX7_init_19 rfl ?_
  refine Ze_callI (k0 := 19) (eX1_init (Q := fun r es => r = none ∧ ∃ m : zM, es = zE G 26 m ∧ mX0_leadAllRows G 45 (zmem 30 fX0_init (zmem 26 fX2_init m)) (fun μ3 => mX4_matchNone G 118 (zmem 99 fX4_init (zmem 45 fX3_init μ3)) (fun μ5 => Q none (zP G 154 127 (zu (zmem 126 (fun _ _ => 0) (zmem 118 fX5_init μ5)) 0 8 0))))) ⟨rfl, _, rfl, h⟩) md_X1_init iv_X1_init rfl lk_X7_20 rfl rfl (Nat.le_of_ble_eq_true rfl) dX7_init_20 ⟨by decide, Nat.le_of_ble_eq_true rfl⟩ ⟨by decide, by decide⟩ ?_
  rintro r1 es1 ⟨rfl, m1, rfl, h⟩
  refine Z_cs (kc' := 25) (ks' := 240) rfl rfl ?_
  refine Ze_putF (v := Rv G 19) (k0 := 0) zcX7 fk_X7_21 (by decide) rfl rfl rfl (tyX7_ok 1 (by decide)) rfl rfl (zE0 (by decide)) (Nat.le_of_ble_eq_true rfl) dX7_init_23 ?_
  refine Z_es (es2 := zP G 30 26 m1) (zstep0 (by decide) rfl) ?_
  refine Z_aload_n dX7_init_26 rfl ?_
  refine Ze_new (fs := [.null, .null, .null, .null]) zcX2 cr_X7_25 is_X2 in_X2 (by decide) ⟨by decide, by decide⟩ dX7_init_27 ?_
  refine Z_cs (kc' := 26) (ks' := 244) rfl rfl ?_
  refine Zc_ref (b := 26) (zP_len _ _ _ _) ?_
  refine Z_dup dX7_init_30 rfl ?_
  refine Z_aload_n dX7_init_31 rfl ?_
  refine Ze_get (k0 := 0) (v := Rv G 19) zcX7 fl_X7_21 (by decide) (zP0 (by decide)) rfl dX7_init_32 ?_
  refine Ze_callI (k0 := 26) (eX2_init (Q := fun r es => r = none ∧ ∃ m : zM, es = zE G 30 m ∧ mX0_leadAllRows G 45 (zmem 30 fX0_init m) (fun μ3 => mX4_matchNone G 118 (zmem 99 fX4_init (zmem 45 fX3_init μ3)) (fun μ5 => Q none (zP G 154 127 (zu (zmem 126 (fun _ _ => 0) (zmem 118 fX5_init μ5)) 0 8 0))))) ⟨rfl, _, rfl, h⟩) md_X2_init iv_X2_init rfl lk_X7_27 rfl rfl (Nat.le_of_ble_eq_true rfl) dX7_init_35 ⟨by decide, Nat.le_of_ble_eq_true rfl⟩ ⟨by decide, by decide⟩ ?_
  rintro r2 es2 ⟨rfl, m2, rfl, h⟩
  refine Z_cs (kc' := 29) (ks' := 268) rfl rfl ?_
  refine Ze_putF (v := Rv G 26) (k0 := 0) zcX7 fk_X7_30 (by decide) rfl rfl rfl (tyX7_ok 2 (by decide)) rfl rfl (zE0 (by decide)) (Nat.le_of_ble_eq_true rfl) dX7_init_38 ?_
  refine Z_es (es2 := zP G 45 30 m2) (zstep0 (by decide) rfl) ?_
  refine Z_aload_n dX7_init_41 rfl ?_
  refine Ze_new (fs := [Iv 0, Iv 0, Iv 0, Iv 0, .null, .null, .null, .null, .null, .null]) zcX0 cr_X7_34 is_X0 in_X0 (by decide) ⟨by decide, by decide⟩ dX7_init_42 ?_
  refine Z_cs (kc' := 30) (ks' := 278) rfl rfl ?_
  refine Zc_ref (b := 30) (zP_len _ _ _ _) ?_
  refine Z_dup dX7_init_45 rfl ?_
  refine Ze_callI (k0 := 30) (eX0_init (Q := fun r es => r = none ∧ ∃ m : zM, es = zE G 45 m ∧ mX4_matchNone G 118 (zmem 99 fX4_init (zmem 45 fX3_init m)) (fun μ5 => Q none (zP G 154 127 (zu (zmem 126 (fun _ _ => 0) (zmem 118 fX5_init μ5)) 0 8 0)))) (mono_v h (fun m q => ⟨rfl, m, rfl, q⟩))) md_X0_init iv_X0_init rfl lk_X7_36 rfl rfl (Nat.le_of_ble_eq_true rfl) dX7_init_46 ⟨by decide, Nat.le_of_ble_eq_true rfl⟩ ⟨by decide, by decide⟩ ?_
  rintro r3 es3 ⟨rfl, m3, rfl, h⟩
  refine Z_cs (kc' := 44) (ks' := 446) rfl rfl ?_
  refine Ze_putF (v := Rv G 30) (k0 := 0) zcX7 fk_X7_37 (by decide) rfl rfl rfl (tyX7_ok 3 (by decide)) rfl rfl (zE0 (by decide)) (Nat.le_of_ble_eq_true rfl) dX7_init_49 ?_
  refine Z_es (es2 := zP G 99 45 m3) (zstep0 (by decide) rfl) ?_
  refine Z_aload_n dX7_init_52 rfl ?_
  refine Ze_new (fs := [Iv 0, Iv 0, Iv 0, Iv 0, .null, .null, .null, .null, .null, .null, .null]) zcX3 cr_X7_41 is_X3 in_X3 (by decide) ⟨by decide, by decide⟩ dX7_init_53 ?_
  refine Z_cs (kc' := 45) (ks' := 457) rfl rfl ?_
  refine Zc_ref (b := 45) (zP_len _ _ _ _) ?_
  refine Z_dup dX7_init_56 rfl ?_
  refine Ze_callI (k0 := 45) (eX3_init (Q := fun r es => r = none ∧ ∃ m : zM, es = zE G 99 m ∧ mX4_matchNone G 118 (zmem 99 fX4_init m) (fun μ5 => Q none (zP G 154 127 (zu (zmem 126 (fun _ _ => 0) (zmem 118 fX5_init μ5)) 0 8 0)))) ⟨rfl, _, rfl, h⟩) md_X3_init iv_X3_init rfl lk_X7_43 rfl rfl (Nat.le_of_ble_eq_true rfl) dX7_init_57 ⟨by decide, Nat.le_of_ble_eq_true rfl⟩ ⟨by decide, by decide⟩ ?_
  rintro r4 es4 ⟨rfl, m4, rfl, h⟩
  refine Z_cs (kc' := 98) (ks' := 785) rfl rfl ?_
  refine Ze_putF (v := Rv G 45) (k0 := 0) zcX7 fk_X7_44 (by decide) rfl rfl rfl (tyX7_ok 4 (by decide)) rfl rfl (zE0 (by decide)) (Nat.le_of_ble_eq_true rfl) dX7_init_60 ?_
  refine Z_es (es2 := zP G 118 99 m4) (zstep0 (by decide) rfl) ?_
  refine Z_aload_n dX7_init_63 rfl ?_
  refine Ze_new (fs := [Iv 0, .null, .null, .null, .null, .null, .null, .null]) zcX4 cr_X7_48 is_X4 in_X4 (by decide) ⟨by decide, by decide⟩ dX7_init_64 ?_
  refine Z_cs (kc' := 99) (ks' := 793) rfl rfl ?_
  refine Zc_ref (b := 99) (zP_len _ _ _ _) ?_
  refine Z_dup dX7_init_67 rfl ?_
  refine Ze_callI (k0 := 99) (eX4_init (Q := fun r es => r = none ∧ ∃ m : zM, es = zE G 118 m ∧ Q none (zP G 154 127 (zu (zmem 126 (fun _ _ => 0) (zmem 118 fX5_init m)) 0 8 0))) (mono_v h (fun m q => ⟨rfl, m, rfl, q⟩))) md_X4_init iv_X4_init rfl lk_X7_50 rfl rfl (Nat.le_of_ble_eq_true rfl) dX7_init_68 ⟨by decide, Nat.le_of_ble_eq_true rfl⟩ ⟨by decide, by decide⟩ ?_
  rintro r5 es5 ⟨rfl, m5, rfl, h⟩
  refine Z_cs (kc' := 117) (ks' := 1046) rfl rfl ?_
  refine Ze_putF (v := Rv G 99) (k0 := 0) zcX7 fk_X7_51 (by decide) rfl rfl rfl (tyX7_ok 5 (by decide)) rfl rfl (zE0 (by decide)) (Nat.le_of_ble_eq_true rfl) dX7_init_71 ?_
  refine Z_es (es2 := zP G 126 118 m5) (zstep0 (by decide) rfl) ?_
  refine Z_aload_n dX7_init_74 rfl ?_
  refine Ze_new (fs := [.null, .null, .null]) zcX5 cr_X7_55 is_X5 in_X5 (by decide) ⟨by decide, by decide⟩ dX7_init_75 ?_
  refine Z_cs (kc' := 118) (ks' := 1049) rfl rfl ?_
  refine Zc_ref (b := 118) (zP_len _ _ _ _) ?_
  refine Z_dup dX7_init_78 rfl ?_
  refine Ze_callI (k0 := 118) (eX5_init (Q := fun r es => r = none ∧ ∃ m : zM, es = zE G 126 m ∧ Q none (zP G 154 127 (zu (zmem 126 (fun _ _ => 0) m) 0 8 0))) ⟨rfl, _, rfl, h⟩) md_X5_init iv_X5_init rfl lk_X7_57 rfl rfl (Nat.le_of_ble_eq_true rfl) dX7_init_79 ⟨by decide, Nat.le_of_ble_eq_true rfl⟩ ⟨by decide, by decide⟩ ?_
  rintro r6 es6 ⟨rfl, m6, rfl, h⟩
  refine Z_cs (kc' := 125) (ks' := 1301) rfl rfl ?_
  refine Ze_putF (v := Rv G 118) (k0 := 0) zcX7 fk_X7_58 (by decide) rfl rfl rfl (tyX7_ok 6 (by decide)) rfl rfl (zE0 (by decide)) (Nat.le_of_ble_eq_true rfl) dX7_init_82 ?_
  refine Z_es (es2 := zP G 127 126 m6) (zstep0 (by decide) rfl) ?_
  refine Z_aload_n dX7_init_85 rfl ?_
  refine Z_bipush dX7_init_86 (by decide) ?_
  refine Ze_newa (ty := .int) (atype := .int) (q := 0) (N := 8) (e1 := (8, .inl (fun j : Nat => Int32.ofInt (((fun _ => 0) : Int → Int) j)))) rfl rfl (by decide) (znew0 8) (by decide) (by decide) (by decide) rfl ⟨by decide, by decide⟩ dX7_init_88 (fun _ _ h => h) ?_
  refine Z_cs (kc' := 126) (ks' := 1309) rfl rfl ?_
  refine Zc_ref (b := 126) (zP_len _ _ _ _) ?_
  refine Z_es (es2 := zE G 127 (zmem 126 (fun _ _ => 0) m6)) (zjoin (l := 1) rfl rfl) ?_
  refine Ze_putF (v := Rv G 126) (k0 := 0) zcX7 fk_X7_62 (by decide) rfl rfl rfl (tyX7_ok 7 (by decide)) rfl rfl (zE0 (by decide)) (Nat.le_of_ble_eq_true rfl) dX7_init_90 ?_
  refine Z_es (es2 := zP G 154 127 (zmem 126 (fun _ _ => 0) m6)) (zstep0 (by decide) rfl) ?_
  refine Z_aload_n dX7_init_93 rfl ?_
  refine Z_iconst dX7_init_94 ?_
  refine Ze_put (k0 := 0) zcX7 fk_X7_66 (by decide) rfl (tyX7_ok 8 (by decide)) rfl rfl (by have := zP0 (G := G) (n := 154) (m := 127) (μ := zmem 126 (fun _ _ => 0) m6) (t := []) (by decide); rwa [List.append_nil] at this) (Nat.le_of_ble_eq_true rfl) dX7_init_95 ?_
  refine Z_es (zstep8 (by decide) rfl) ?_
  exact Ze_return dX7_init_98 h
